section
/-! rows of kit/rows, pasted -/
theorem pk_us {f : Nat → Int32} {k : Nat} {x : Int32} : upd f k x k = x := if_pos rfl
theorem pk_un {f : Nat → Int32} {k j : Nat} {x : Int32} (h : j ≠ k) : upd f k x j = f j := if_neg h
theorem pk_sub {a b : Nat} (h : b ≤ a) : nI a - nI b = nI (a - b) := by
  obtain ⟨c, rfl⟩ : ∃ c, a = c + b := ⟨a - b, by omega⟩
  rw [← nI_add, Int32.add_sub_cancel, Nat.add_sub_cancel]
theorem pk_m1 (n : Nat) : nI (n + 1) + (-1) = nI n := by
  rw [← nI_1, Int32.add_assoc, show (1 : Int32) + (-1) = 0 from rfl, Int32.add_zero]
theorem pk_mul (a b : Nat) : nI a * nI b = nI (a * b) := (Int32.ofNat_mul a b).symm
theorem pk_div {a d : Nat} (ha : a < 2 ^ 31) (h0 : 0 < d) (hd : d < 2 ^ 31) : nI a / nI d = nI (a / d) := by
  apply Int32.toInt_inj.mp
  rw [lg_idiv_nonneg (by rw [nI_toInt ha]; omega) (by rw [nI_toInt hd]; omega), nI_toInt ha, nI_toInt hd, nI_toInt (Nat.lt_of_le_of_lt (Nat.div_le_self a d) ha)]
  first | rfl | exact (Int.natCast_ediv _ _).symm
theorem pk_rem {a d : Nat} (ha : a < 2 ^ 31) (h0 : 0 < d) (hd : d < 2 ^ 31) : nI a - nI a / nI d * nI d = nI (a % d) := by
  rw [pk_div ha h0 hd, pk_mul, pk_sub (Nat.div_mul_le_self a d)]
  exact congrArg nI (by have := Nat.div_add_mod' a d; omega)
theorem pk_sub_toInt {a b : Nat} (ha : a < 2 ^ 30) (hb : b < 2 ^ 30) : (nI a - nI b).toInt = (a : Int) - b := by
  rw [Int32.toInt_sub, nI_toInt (by omega), nI_toInt (by omega)]
  exact Int.bmod_eq_of_le (by omega) (by omega)
theorem pk_sneg {a b : Nat} (hb : b < 2 ^ 30) (h : a < b) : nI a - nI b < 0 := by
  rw [Int32.lt_iff_toInt_lt, pk_sub_toInt (by omega) hb, show (0 : Int32).toInt = 0 from by decide]
  omega
theorem pk_ix (x : Int32) {n : Nat} (hn : n < 2 ^ 31) : x < 0 ∨ nI n ≤ x ∨ ∃ j : Nat, j < n ∧ x = nI j := by
  by_cases h : x < 0
  · exact Or.inl h
  · obtain ⟨j, hj, rfl⟩ := nI_of h
    by_cases h2 : j < n
    · exact Or.inr (Or.inr ⟨j, h2, rfl⟩)
    · exact Or.inr (Or.inl (nI_le (by omega) hj))
theorem pk_le {x y : Int32} {A B : Prop} (a b : Nat) (f : a ≤ b → A) (g : b < a → B) (hx : x = nI a := by rfl) (hy : y = nI b := by rfl) (ha : a < 2 ^ 31 := by omega) (hb : b < 2 ^ 31 := by omega) : (x ≤ y → A) ∧ (¬ x ≤ y → B) := by
  subst hx hy
  rw [nI_leI ha hb]
  exact ⟨f, fun z => g (by omega)⟩
theorem pk_lt {x y : Int32} {A B : Prop} (a b : Nat) (f : a < b → A) (g : b ≤ a → B) (hx : x = nI a := by rfl) (hy : y = nI b := by rfl) (ha : a < 2 ^ 31 := by omega) (hb : b < 2 ^ 31 := by omega) : (x < y → A) ∧ (¬ x < y → B) := by
  subst hx hy
  rw [nI_ltI ha hb]
  exact ⟨f, fun z => g (by omega)⟩
theorem pk_eq {x y : Int32} {A B : Prop} (a b : Nat) (f : a = b → A) (g : a ≠ b → B) (hx : x = nI a := by rfl) (hy : y = nI b := by rfl) (ha : a < 2 ^ 31 := by omega) (hb : b < 2 ^ 31 := by omega) : (x = y → A) ∧ (¬ x = y → B) := by
  subst hx hy
  rw [nI_eq ha hb]
  exact ⟨f, g⟩
theorem pk_in {x : Int32} (n N : Nat) (h : n < N) (hx : x = nI n := by rfl) (hN : N < 2 ^ 31 := by omega) : vp_in x N := by
  subst hx
  exact vp_in_nI h hN
theorem pk_cl {x : Int32} (n : Nat) (hx : x = nI n := by rfl) (h : n < 2 ^ 31 := by omega) : x.toNatClampNeg = n := by
  subst hx
  exact nI_clamp h
theorem pk_tn {n : Nat} (h : n < 2 ^ 32) : (nI n).toBitVec.toNat = n := Nat.mod_eq_of_lt h
theorem pk_and (x : Int32) {m : Int32} (k : Nat) (hm : m.toBitVec.toNat = 2 ^ k - 1) : x &&& m = nI (x.toBitVec.toNat % 2 ^ k) := by
  apply Int32.toBitVec_inj.mp
  apply BitVec.eq_of_toNat_eq
  rw [Int32.toBitVec_and, BitVec.toNat_and, hm, Nat.and_two_pow_sub_one_eq_mod]
  show _ = (BitVec.ofNat 32 _).toNat
  rw [BitVec.toNat_ofNat]
  exact (Nat.mod_eq_of_lt (Nat.lt_of_le_of_lt (Nat.mod_le _ _) x.toBitVec.isLt)).symm
theorem pk_andN {n : Nat} (h : n < 2 ^ 32) {m : Int32} (k : Nat) (hm : m.toBitVec.toNat = 2 ^ k - 1) : nI n &&& m = nI (n % 2 ^ k) := by
  rw [pk_and _ k hm, pk_tn h]
theorem pk_andE (x : Int32) {m : Int32} (k : Nat) (hm : m.toBitVec.toNat = 2 ^ k - 1) : ∃ j : Nat, j < 2 ^ k ∧ x &&& m = nI j := ⟨_, Nat.mod_lt _ (Nat.two_pow_pos k), pk_and x k hm⟩
theorem pk_shr (a s : Int32) (k : Nat) (hs : (s.toBitVec.smod 32).toNat = k) : (a >>> s).toInt = a.toInt >>> k := by
  show (a.toBitVec.sshiftRight (s.toBitVec.smod 32).toNat).toInt = _
  rw [hs, BitVec.toInt_sshiftRight]
  rfl
theorem pk_shrN {n : Nat} (h : n < 2 ^ 31) (s : Int32) (k : Nat) (hs : (s.toBitVec.smod 32).toNat = k) : nI n >>> s = nI (n / 2 ^ k) := by
  apply Int32.toInt_inj.mp
  have h2 : n / 2 ^ k ≤ n := Nat.div_le_self _ _
  rw [pk_shr _ _ k hs, nI_toInt h, nI_toInt (by omega), Int.shiftRight_eq_div_pow]
  rfl
theorem pk_loop {σ : Type} (W : Nat → Nat → σ → Prop) (I : Nat → σ → Prop) (e i0 : Nat) (s : σ) (hi : i0 ≤ e) (h0 : I i0 s) (hx : ∀ n s, I e s → W (n + 1) e s)
    (hs : ∀ n i s, i < e → I i s → (∀ s', I (i + 1) s' → W n (i + 1) s') → W (n + 1) i s) : ∃ n, W n i0 s :=
  ⟨e + 1, loop_i W I e hx hs (e + 1) i0 s hi (by omega) h0⟩
end
section
/-! the pure pictures: parents, sums of offsets, depth -/
theorem ds_add {a b : Int32} (h : -1000000 ≤ a.toInt + b.toInt) (h' : a.toInt + b.toInt ≤ 1000000) : (a + b).toInt = a.toInt + b.toInt := by
  rw [Int32.toInt_add]
  exact Int.bmod_eq_of_le (by omega) (by omega)
theorem ds_sub {a b : Int32} (h : -1000000 ≤ a.toInt - b.toInt) (h' : a.toInt - b.toInt ≤ 1000000) : (a - b).toInt = a.toInt - b.toInt := by
  rw [Int32.toInt_sub]
  exact Int.bmod_eq_of_le (by omega) (by omega)
theorem ds_i0 : (0 : Int32).toInt = 0 := by decide
def ds_up (p : Nat → Int32) (a : Nat) : Nat := (p a).toNatClampNeg
def ds_cs (d p : Nat → Int32) : Nat → Nat → Int32 → Int32
  | 0, _, s => s
  | n + 1, a, s => if a = 0 then s else ds_cs d p n (ds_up p a) (s + d a)
def ds_T (t p : Nat → Int32) (dp : Nat → Nat) : Prop :=
  dp 0 = 0 ∧ t 0 ≠ 0 ∧ ∀ w, 1 ≤ w → w < 6 → t w ≠ 0 → dp w = dp (ds_up p w) + 1 ∧ dp w ≤ 5 ∧ t (ds_up p w) ≠ 0
def ds_P (p : Nat → Int32) : Prop := ∀ w, w < 6 → ds_up p w < 6 ∧ p w = nI (ds_up p w)
def ds_B (d : Nat → Int32) : Prop := ∀ w, w < 6 → -15 ≤ (d w).toInt ∧ (d w).toInt ≤ 15
theorem ds_cs_0 {d p : Nat → Int32} {n : Nat} {s : Int32} : ds_cs d p n 0 s = s := by
  cases n with
  | zero => rfl
  | succ n => exact if_pos rfl
theorem ds_cs_n {d p : Nat → Int32} {n a : Nat} {s : Int32} (h : a ≠ 0) : ds_cs d p (n + 1) a s = ds_cs d p n (ds_up p a) (s + d a) := if_neg h
theorem ds_cs_s {d t p : Nat → Int32} {dp : Nat → Nat} (H : ds_T t p dp) (hp : ds_P p) : ∀ n a s, a < 6 → t a ≠ 0 → dp a ≤ n → ds_cs d p (n + 1) a s = ds_cs d p n a s := by
  intro n
  induction n with
  | zero =>
    intro a s ha h hd
    by_cases z : a = 0
    · subst z; rw [ds_cs_0, ds_cs_0]
    · have := (H.2.2 a (by omega) ha h).1; omega
  | succ n ih =>
    intro a s ha h hd
    by_cases z : a = 0
    · subst z; rw [ds_cs_0, ds_cs_0]
    · have q := H.2.2 a (by omega) ha h
      rw [ds_cs_n z, ds_cs_n z]
      exact ih _ _ (hp a ha).1 q.2.2 (by omega)
theorem ds_dp5 {t p : Nat → Int32} {dp : Nat → Nat} (H : ds_T t p dp) {a : Nat} (ha : a < 6) (h : t a ≠ 0) : dp a ≤ 5 := by
  by_cases z : a = 0
  · subst z; rw [H.1]; omega
  · exact (H.2.2 a (by omega) ha h).2.1
theorem ds_cs_6 {d t p : Nat → Int32} {dp : Nat → Nat} (H : ds_T t p dp) (hp : ds_P p) {a : Nat} (ha : a < 6) (h : t a ≠ 0) : ds_cs d p 6 a 0 = ds_cs d p 5 a 0 :=
  ds_cs_s H hp 5 a 0 ha h (ds_dp5 H ha h)
theorem ds_cs_b {d p : Nat → Int32} (hd : ds_B d) (hp : ds_P p) : ∀ (n a : Nat) (s : Int32) (B : Int), a < 6 → 0 ≤ B → B + 15 * (n : Int) ≤ 1000 → -B ≤ s.toInt → s.toInt ≤ B → -(B + 15 * (n : Int)) ≤ (ds_cs d p n a s).toInt ∧ (ds_cs d p n a s).toInt ≤ B + 15 * (n : Int) := by
  intro n
  induction n with
  | zero =>
    intro a s B ha h0 hB h1 h2
    show -(B + 15 * ((0 : Nat) : Int)) ≤ s.toInt ∧ s.toInt ≤ B + 15 * ((0 : Nat) : Int)
    omega
  | succ n ih =>
    intro a s B ha h0 hB h1 h2
    by_cases z : a = 0
    · subst z; rw [ds_cs_0]; omega
    · rw [ds_cs_n z]
      have b := hd a ha
      have e : (s + d a).toInt = s.toInt + (d a).toInt := ds_add (by omega) (by omega)
      have := ih (ds_up p a) (s + d a) (B + 15) (hp a ha).1 (by omega) (by omega) (by omega) (by omega)
      omega
theorem ds_cs_5 {d p : Nat → Int32} (hd : ds_B d) (hp : ds_P p) {a : Nat} (ha : a < 6) : -75 ≤ (ds_cs d p 5 a 0).toInt ∧ (ds_cs d p 5 a 0).toInt ≤ 75 := by
  have := ds_cs_b hd hp 5 a 0 0 ha (by omega) (by omega) (by rw [ds_i0]; omega) (by rw [ds_i0]; omega)
  omega
/-! pigeonhole, and the depth of a new window -/
theorem ds_ph : ∀ (n : Nat) (f : Nat → Nat), (∀ i, i ≤ n → f i < n) → ∃ i j, i < j ∧ j ≤ n ∧ f i = f j := by
  intro n
  induction n with
  | zero => intro f h; exact absurd (h 0 (Nat.le_refl 0)) (Nat.not_lt_zero _)
  | succ n ih =>
    intro f h
    by_cases e : ∃ i, i ≤ n ∧ f i = f (n + 1)
    · obtain ⟨i, hi, hf⟩ := e
      exact ⟨i, n + 1, by omega, by omega, hf⟩
    · have e' : ∀ i, i ≤ n → f i ≠ f (n + 1) := fun i hi hf => e ⟨i, hi, hf⟩
      obtain ⟨i, j, hij, hj, hg⟩ := ih (fun i => if f i = n then f (n + 1) else f i) (by
        intro i hi
        have a := h i (by omega)
        have b := h (n + 1) (by omega)
        have c := e' i hi
        by_cases z : f i = n
        · show (if f i = n then f (n + 1) else f i) < n
          rw [if_pos z]; omega
        · show (if f i = n then f (n + 1) else f i) < n
          rw [if_neg z]; omega)
      refine ⟨i, j, hij, by omega, ?_⟩
      have hg' : (if f i = n then f (n + 1) else f i) = (if f j = n then f (n + 1) else f j) := hg
      have c1 := e' i (by omega)
      have c2 := e' j (by omega)
      by_cases z : f i = n
      · by_cases y : f j = n
        · rw [z, y]
        · rw [if_pos z, if_neg y] at hg'; exact absurd hg'.symm c2
      · by_cases y : f j = n
        · rw [if_neg z, if_pos y] at hg'; exact absurd hg' c1
        · rw [if_neg z, if_neg y] at hg'; exact hg'
theorem ds_chain {t p : Nat → Int32} {dp : Nat → Nat} (H : ds_T t p dp) (hp : ds_P p) : ∀ d a, a < 6 → t a ≠ 0 → dp a = d → ∀ e, 1 ≤ e → e ≤ d → ∃ b, 1 ≤ b ∧ b < 6 ∧ t b ≠ 0 ∧ dp b = e := by
  intro d
  induction d with
  | zero => intro a ha h hd e h1 h2; omega
  | succ d ih =>
    intro a ha h hd e h1 h2
    have z : a ≠ 0 := by
      intro z; subst z; rw [H.1] at hd; omega
    have q := H.2.2 a (by omega) ha h
    by_cases y : e = d + 1
    · exact ⟨a, by omega, ha, h, by omega⟩
    · exact ih (ds_up p a) (hp a ha).1 q.2.2 (by omega) e h1 (by omega)
theorem ds_dep {t p : Nat → Int32} {dp : Nat → Nat} (H : ds_T t p dp) (hp : ds_P p) {w a : Nat} (w1 : 1 ≤ w) (w6 : w < 6) (tw : t w = 0) (ha : a < 6) (h : t a ≠ 0) : dp a ≤ 4 := by
  have h5 := ds_dp5 H ha h
  by_cases z : dp a ≤ 4
  · exact z
  · exfalso
    have hd : dp a = 5 := by omega
    have c : ∀ e : Nat, ∃ b : Nat, 1 ≤ e → e ≤ 5 → 1 ≤ b ∧ b < 6 ∧ t b ≠ 0 ∧ dp b = e := by
      intro e
      by_cases y : 1 ≤ e ∧ e ≤ 5
      · obtain ⟨b, hb⟩ := ds_chain H hp 5 a ha h hd e y.1 y.2
        exact ⟨b, fun _ _ => hb⟩
      · exact ⟨0, fun y1 y2 => absurd ⟨y1, y2⟩ y⟩
    obtain ⟨g, hg⟩ : ∃ g : Nat → Nat, ∀ e, 1 ≤ e → e ≤ 5 → 1 ≤ g e ∧ g e < 6 ∧ t (g e) ≠ 0 ∧ dp (g e) = e := ⟨fun e => Classical.choose (c e), fun e => Classical.choose_spec (c e)⟩
    obtain ⟨i, j, hij, hj, hf⟩ := ds_ph 5 (fun i => if i = 0 then w - 1 else g i - 1) (by
      intro i hi
      show (if i = 0 then w - 1 else g i - 1) < 5
      by_cases y : i = 0
      · rw [if_pos y]; omega
      · rw [if_neg y]
        have := hg i (by omega) hi
        omega)
    have hf' : (if i = 0 then w - 1 else g i - 1) = (if j = 0 then w - 1 else g j - 1) := hf
    have gj := hg j (by omega) hj
    rw [if_neg (show ¬ j = 0 by omega)] at hf'
    by_cases y : i = 0
    · rw [if_pos y] at hf'
      have e : g j = w := by omega
      rw [e] at gj
      exact gj.2.2.1 tw
    · rw [if_neg y] at hf'
      have gi := hg i (by omega) (by omega)
      have e : g i = g j := by omega
      rw [e] at gi
      omega
end
section
/-! topmost, owner -/
def ds_tm (q : Nat → Bool) (lv : Nat → Int32) : Nat → Nat → Nat → Nat
  | 0, _, b => b
  | n + 1, c, b => ds_tm q lv n (c + 1) (if q c = true ∧ (b = 0 ∨ lv b < lv c) then c else b)
theorem ds_tm_y {q : Nat → Bool} {lv : Nat → Int32} {n c b : Nat} (h : q c = true ∧ (b = 0 ∨ lv b < lv c)) : ds_tm q lv (n + 1) c b = ds_tm q lv n (c + 1) c :=
  congrArg (ds_tm q lv n (c + 1)) (if_pos h)
theorem ds_tm_n {q : Nat → Bool} {lv : Nat → Int32} {n c b : Nat} (h : ¬ (q c = true ∧ (b = 0 ∨ lv b < lv c))) : ds_tm q lv (n + 1) c b = ds_tm q lv n (c + 1) b :=
  congrArg (ds_tm q lv n (c + 1)) (if_neg h)
theorem ds_tm_in {q : Nat → Bool} {lv : Nat → Int32} : ∀ n c b, 1 ≤ c → c + n = 6 → (b = 0 ∨ (1 ≤ b ∧ b < 6 ∧ q b = true)) → (ds_tm q lv n c b = 0 ∨ (1 ≤ ds_tm q lv n c b ∧ ds_tm q lv n c b < 6 ∧ q (ds_tm q lv n c b) = true)) := by
  intro n
  induction n with
  | zero => intro c b _ _ h; exact h
  | succ n ih =>
    intro c b hc hn h
    by_cases z : q c = true ∧ (b = 0 ∨ lv b < lv c)
    · rw [ds_tm_y z]; exact ih (c + 1) c (by omega) (by omega) (Or.inr ⟨hc, by omega, z.1⟩)
    · rw [ds_tm_n z]; exact ih (c + 1) b (by omega) (by omega) h
def ds_ow (f : Nat → Nat) : Nat → Nat → Nat
  | 0, a => a
  | n + 1, a => if f a = 0 then a else ds_ow f n (f a)
theorem ds_ow_y {f : Nat → Nat} {n a : Nat} (h : f a = 0) : ds_ow f (n + 1) a = a := if_pos h
theorem ds_ow_n {f : Nat → Nat} {n a : Nat} (h : ¬ f a = 0) : ds_ow f (n + 1) a = ds_ow f n (f a) := if_neg h
theorem ds_ow_in {f : Nat → Nat} {t : Nat → Int32} (hf : ∀ a, a < 6 → t a ≠ 0 → f a = 0 ∨ (f a < 6 ∧ t (f a) ≠ 0)) : ∀ n a, a < 6 → t a ≠ 0 → ds_ow f n a < 6 ∧ t (ds_ow f n a) ≠ 0 := by
  intro n
  induction n with
  | zero => intro a ha h; exact ⟨ha, h⟩
  | succ n ih =>
    intro a ha h
    by_cases z : f a = 0
    · rw [ds_ow_y z]; exact ⟨ha, h⟩
    · rw [ds_ow_n z]
      have := (hf a ha h).resolve_left z
      exact ih _ this.1 this.2
theorem ds_ow_s {f : Nat → Nat} {t : Nat → Int32} {dp : Nat → Nat} (hf : ∀ a, a < 6 → t a ≠ 0 → f a = 0 ∨ (f a < 6 ∧ t (f a) ≠ 0 ∧ dp (f a) = dp a + 1 ∧ dp (f a) ≤ 5)) : ∀ n a, a < 6 → t a ≠ 0 → 5 ≤ dp a + n → ds_ow f (n + 1) a = ds_ow f n a := by
  intro n
  induction n with
  | zero =>
    intro a ha h hd
    by_cases z : f a = 0
    · rw [ds_ow_y z]; rfl
    · have := (hf a ha h).resolve_left z
      omega
  | succ n ih =>
    intro a ha h hd
    by_cases z : f a = 0
    · rw [ds_ow_y z, ds_ow_y z]
    · rw [ds_ow_n z, ds_ow_n z]
      have := (hf a ha h).resolve_left z
      exact ih _ this.1 this.2.1 (by omega)
def ds_C (p dx dy wd hg sh : Nat → Int32) (x y c : Nat) : Bool :=
  decide (sh c ≠ 0 ∧ 0 ≤ nI x - ds_cs dx p 5 c 0 ∧ nI x - ds_cs dx p 5 c 0 < wd c ∧ 0 ≤ nI y - ds_cs dy p 5 c 0 ∧ nI y - ds_cs dy p 5 c 0 < hg c)
def ds_q (t p dx dy wd hg sh : Nat → Int32) (x y a : Nat) (c : Nat) : Bool :=
  decide (t c ≠ 0 ∧ p c = nI a ∧ ds_C p dx dy wd hg sh x y c = true)
def ds_nx (t p dx dy wd hg sh lv : Nat → Int32) (x y a : Nat) : Nat := ds_tm (ds_q t p dx dy wd hg sh x y a) lv 5 1 0
def ds_O (t p dx dy wd hg sh lv : Nat → Int32) (x y : Nat) : Nat := ds_ow (ds_nx t p dx dy wd hg sh lv x y) 5 0
section
variable {t p dx dy wd hg sh lv : Nat → Int32} {dp : Nat → Nat} {x y : Nat}
theorem ds_nx_in {a : Nat} : ds_nx t p dx dy wd hg sh lv x y a = 0 ∨ (1 ≤ ds_nx t p dx dy wd hg sh lv x y a ∧ ds_nx t p dx dy wd hg sh lv x y a < 6 ∧ t (ds_nx t p dx dy wd hg sh lv x y a) ≠ 0 ∧ p (ds_nx t p dx dy wd hg sh lv x y a) = nI a) := by
  have h := ds_tm_in (q := ds_q t p dx dy wd hg sh x y a) (lv := lv) 5 1 0 (by omega) (by omega) (Or.inl rfl)
  cases h with
  | inl h => exact Or.inl h
  | inr h =>
    have e := of_decide_eq_true h.2.2
    exact Or.inr ⟨h.1, h.2.1, e.1, e.2.1⟩
theorem ds_nx_d (H : ds_T t p dp) : ∀ a, a < 6 → t a ≠ 0 → ds_nx t p dx dy wd hg sh lv x y a = 0 ∨ (ds_nx t p dx dy wd hg sh lv x y a < 6 ∧ t (ds_nx t p dx dy wd hg sh lv x y a) ≠ 0 ∧ dp (ds_nx t p dx dy wd hg sh lv x y a) = dp a + 1 ∧ dp (ds_nx t p dx dy wd hg sh lv x y a) ≤ 5) := by
  intro a ha h
  cases ds_nx_in (t := t) (p := p) (dx := dx) (dy := dy) (wd := wd) (hg := hg) (sh := sh) (lv := lv) (x := x) (y := y) (a := a) with
  | inl e => exact Or.inl e
  | inr e =>
    have q := H.2.2 _ e.1 e.2.1 e.2.2.1
    have u : ds_up p (ds_nx t p dx dy wd hg sh lv x y a) = a := by
      unfold ds_up; rw [e.2.2.2]; exact nI_clamp (by omega)
    rw [u] at q
    exact Or.inr ⟨e.2.1, e.2.2.1, q.1, q.2.1⟩
theorem ds_O_in (H : ds_T t p dp) : ds_O t p dx dy wd hg sh lv x y < 6 ∧ t (ds_O t p dx dy wd hg sh lv x y) ≠ 0 :=
  ds_ow_in (fun a ha h => (ds_nx_d H a ha h).imp id (fun e => ⟨e.1, e.2.1⟩)) 5 0 (by omega) H.2.1
theorem ds_O_6 (H : ds_T t p dp) : ds_ow (ds_nx t p dx dy wd hg sh lv x y) 6 0 = ds_O t p dx dy wd hg sh lv x y :=
  ds_ow_s (ds_nx_d H) 5 0 (by omega) H.2.1 (by omega)
end
/-! covers: the two ways to ask -/
theorem ds_cov {x c w : Int32} (hx : 0 ≤ x.toInt) (hx2 : x.toInt ≤ 1000) (hc : -1000 ≤ c.toInt) (hc2 : c.toInt ≤ 1000) (hw : 0 ≤ w.toInt) (hw2 : w.toInt ≤ 1000) : (0 ≤ x - c ↔ c ≤ x) ∧ (x - c < w ↔ x < c + w) := by
  have e1 : (x - c).toInt = x.toInt - c.toInt := ds_sub (by omega) (by omega)
  have e2 : (c + w).toInt = c.toInt + w.toInt := ds_add (by omega) (by omega)
  rw [Int32.le_iff_toInt_le, Int32.le_iff_toInt_le, Int32.lt_iff_toInt_lt, Int32.lt_iff_toInt_lt, e1, e2, ds_i0]
  exact ⟨by omega, by omega⟩
/-! fills -/
def ds_fl (n : Nat) (g a : Nat → Int32) : Nat → Int32 := fun j => if j < n then g j else a j
theorem ds_fl_0 {g a : Nat → Int32} : ds_fl 0 g a = a := funext fun j => if_neg (Nat.not_lt_zero j)
theorem ds_fl_lt {n j : Nat} {g a : Nat → Int32} (h : j < n) : ds_fl n g a j = g j := if_pos h
theorem ds_fl_ge {n j : Nat} {g a : Nat → Int32} (h : ¬ j < n) : ds_fl n g a j = a j := if_neg h
theorem ds_fl_s {n : Nat} {g a : Nat → Int32} {z : Int32} (h : z = g n) : upd (ds_fl n g a) n z = ds_fl (n + 1) g a := by
  funext j
  show (if j = n then z else (if j < n then g j else a j)) = (if j < n + 1 then g j else a j)
  by_cases e : j = n
  · subst e; rw [if_pos rfl, if_pos (by omega), h]
  · rw [if_neg e]
    by_cases l : j < n
    · rw [if_pos l, if_pos (by omega)]
    · rw [if_neg l, if_neg (by omega)]
theorem ds_fl_k {n : Nat} {g a : Nat → Int32} (h : g n = a n) : ds_fl (n + 1) g a = ds_fl n g a := by
  funext j
  show (if j < n + 1 then g j else a j) = (if j < n then g j else a j)
  by_cases e : j = n
  · subst e; rw [if_pos (by omega), if_neg (by omega), h]
  · by_cases l : j < n
    · rw [if_pos l, if_pos (by omega)]
    · rw [if_neg l, if_neg (by omega)]
/-! counts -/
def ds_ct (q : Nat → Bool) : Nat → Nat
  | 0 => 0
  | n + 1 => ds_ct q n + (if q n = true then 1 else 0)
theorem ds_ct_y {q : Nat → Bool} {n : Nat} (h : q n = true) : ds_ct q (n + 1) = ds_ct q n + 1 := congrArg (ds_ct q n + ·) (if_pos h)
theorem ds_ct_n {q : Nat → Bool} {n : Nat} (h : ¬ q n = true) : ds_ct q (n + 1) = ds_ct q n := congrArg (ds_ct q n + ·) (if_neg h)
theorem ds_ct_le {q : Nat → Bool} : ∀ n, ds_ct q n ≤ n := by
  intro n
  induction n with
  | zero => exact Nat.le_refl 0
  | succ n ih =>
    by_cases h : q n = true
    · rw [ds_ct_y h]; omega
    · rw [ds_ct_n h]; omega
theorem ds_ct_c {q q' : Nat → Bool} : ∀ n, (∀ j, j < n → q j = q' j) → ds_ct q n = ds_ct q' n := by
  intro n
  induction n with
  | zero => intro _; rfl
  | succ n ih =>
    intro h
    have e := ih (fun j hj => h j (by omega))
    have z := h n (by omega)
    show ds_ct q n + (if q n = true then 1 else 0) = ds_ct q' n + (if q' n = true then 1 else 0)
    rw [e, z]
theorem ds_ct_d {q q' : Nat → Bool} {k : Nat} (h1 : q k = true) (h2 : q' k = false) (h : ∀ j, j ≠ k → q' j = q j) : ∀ n, k < n → ds_ct q' n + 1 = ds_ct q n := by
  intro n
  induction n with
  | zero => intro z; exact absurd z (Nat.not_lt_zero k)
  | succ n ih =>
    intro hk
    by_cases e : k = n
    · subst e
      rw [ds_ct_y h1, ds_ct_n (by rw [h2]; decide), ds_ct_c k (fun j hj => h j (by omega))]
    · have i := ih (by omega)
      have z := h n (by omega)
      show ds_ct q' n + (if q' n = true then 1 else 0) + 1 = ds_ct q n + (if q n = true then 1 else 0)
      rw [z]; omega
def ds_nz (a : Nat → Int32) : Nat → Bool := fun j => decide (a j ≠ 0)
theorem ds_nz_d {a : Nat → Int32} {k n : Nat} (hk : k < n) (h : a k ≠ 0) : ds_ct (ds_nz (upd a k 0)) n + 1 = ds_ct (ds_nz a) n :=
  ds_ct_d (decide_eq_true h) (decide_eq_false (by rw [pk_us]; exact fun z => z rfl)) (fun j hj => by show decide (upd a k 0 j ≠ 0) = decide (a j ≠ 0); rw [pk_un hj]) n hk
end
section
/-! within, and the removal of what lies within -/
def ds_wi (p : Nat → Int32) (a : Nat) : Nat → Nat → Bool
  | 0, _ => false
  | n + 1, b => if b = 0 then false else if b = a then true else ds_wi p a n (ds_up p b)
section
variable {t p : Nat → Int32} {dp : Nat → Nat} {a : Nat}
theorem ds_wi_0 {n : Nat} : ds_wi p a n 0 = false := by
  cases n with
  | zero => rfl
  | succ n => exact if_pos rfl
theorem ds_wi_a {n : Nat} (h : a ≠ 0) : ds_wi p a (n + 1) a = true := by
  show (if a = 0 then false else if a = a then true else ds_wi p a n (ds_up p a)) = true
  rw [if_neg h, if_pos rfl]
theorem ds_wi_n {n b : Nat} (h : b ≠ 0) (h' : b ≠ a) : ds_wi p a (n + 1) b = ds_wi p a n (ds_up p b) := by
  show (if b = 0 then false else if b = a then true else ds_wi p a n (ds_up p b)) = _
  rw [if_neg h, if_neg h']
theorem ds_wi_s (H : ds_T t p dp) (hp : ds_P p) (a0 : a ≠ 0) : ∀ n b, b < 6 → t b ≠ 0 → dp b ≤ n → ds_wi p a (n + 1) b = ds_wi p a n b := by
  intro n
  induction n with
  | zero =>
    intro b hb h hd
    by_cases z : b = 0
    · subst z; rw [ds_wi_0, ds_wi_0]
    · have := (H.2.2 b (by omega) hb h).1; omega
  | succ n ih =>
    intro b hb h hd
    by_cases z : b = 0
    · subst z; rw [ds_wi_0, ds_wi_0]
    · by_cases y : b = a
      · subst y; rw [ds_wi_a a0, ds_wi_a a0]
      · have q := H.2.2 b (by omega) hb h
        rw [ds_wi_n z y, ds_wi_n z y]
        exact ih _ (hp b hb).1 q.2.2 (by omega)
theorem ds_wi_up (H : ds_T t p dp) (hp : ds_P p) (a0 : a ≠ 0) {b : Nat} (b0 : b ≠ 0) (hb : b < 6) (h : t b ≠ 0) (y : b ≠ a) : ds_wi p a 6 b = ds_wi p a 6 (ds_up p b) := by
  have q := H.2.2 b (by omega) hb h
  rw [ds_wi_n b0 y]
  exact (ds_wi_s H hp a0 5 _ (hp b hb).1 q.2.2 (by omega)).symm
theorem ds_wi_d (H : ds_T t p dp) (hp : ds_P p) : ∀ n b, b < 6 → t b ≠ 0 → ds_wi p a n b = true → b = a ∨ dp a < dp b := by
  intro n
  induction n with
  | zero => intro b _ _ h; exact absurd h Bool.false_ne_true
  | succ n ih =>
    intro b hb h hw
    by_cases z : b = 0
    · subst z; rw [ds_wi_0] at hw; exact absurd hw (by decide)
    · by_cases y : b = a
      · exact Or.inl y
      · have q := H.2.2 b (by omega) hb h
        rw [ds_wi_n z y] at hw
        have r := ih _ (hp b hb).1 q.2.2 hw
        refine Or.inr ?_
        cases r with
        | inl r => rw [r] at q; omega
        | inr r => omega
end
/-- the array 'there' of t when a and what lies within it has gone -/
def ds_E (t p : Nat → Int32) (a : Nat) : Nat → Int32 := fun j => if 1 ≤ j ∧ j < 6 ∧ t j ≠ 0 ∧ ds_wi p a 6 j = true then 0 else t j
/-- after g whole passes, and the windows below w of one more -/
def ds_D (t p : Nat → Int32) (dp : Nat → Nat) (a g w : Nat) (c : Nat → Int32) : Prop :=
  (∀ j, c j = t j ∨ (c j = 0 ∧ 1 ≤ j ∧ j < 6 ∧ ds_wi p a 6 j = true)) ∧
  (∀ j, 1 ≤ j → j < 6 → t j ≠ 0 → ds_wi p a 6 j = true → dp j ≤ dp a + g + (if j < w then 1 else 0) → c j = 0)
section
variable {t p c : Nat → Int32} {dp : Nat → Nat} {a g w : Nat}
theorem ds_D_0 (H : ds_T t p dp) (hp : ds_P p) (a0 : a ≠ 0) (ha : a < 6) : ds_D t p dp a 0 1 (upd t a 0) := by
  refine ⟨fun j => ?_, fun j h1 h6 ht hw hd => ?_⟩
  · by_cases e : j = a
    · subst e; exact Or.inr ⟨pk_us, by omega, ha, ds_wi_a a0⟩
    · exact Or.inl (pk_un e)
  · rw [if_neg (by omega)] at hd
    cases ds_wi_d H hp 6 j h6 ht hw with
    | inl e => subst e; exact pk_us
    | inr e => omega
theorem ds_D_y (H : ds_T t p dp) (hp : ds_P p) (a0 : a ≠ 0) (D : ds_D t p dp a g w c) (w1 : 1 ≤ w) (w6 : w < 6) (h : c w ≠ 0) (h' : c (ds_up p w) = 0) : ds_D t p dp a g (w + 1) (upd c w 0) := by
  have tw : t w ≠ 0 := by
    cases D.1 w with
    | inl e => rw [← e]; exact h
    | inr e => exact absurd e.1 h
  have q := H.2.2 w w1 w6 tw
  have hW : ds_wi p a 6 w = true := by
    by_cases y : w = a
    · subst y; exact ds_wi_a a0
    · rw [ds_wi_up H hp a0 (by omega) w6 tw y]
      cases D.1 (ds_up p w) with
      | inl e => rw [e] at h'; exact absurd h' q.2.2
      | inr e => exact e.2.2.2
  refine ⟨fun j => ?_, fun j h1 h6 ht hw hd => ?_⟩
  · by_cases e : j = w
    · subst e; exact Or.inr ⟨pk_us, w1, w6, hW⟩
    · rw [pk_un e]; exact D.1 j
  · by_cases e : j = w
    · subst e; exact pk_us
    · rw [pk_un e]
      refine D.2 j h1 h6 ht hw ?_
      by_cases l : j < w
      · rw [if_pos l]; rw [if_pos (by omega)] at hd; exact hd
      · rw [if_neg l]; rw [if_neg (by omega)] at hd; exact hd
theorem ds_D_n (H : ds_T t p dp) (hp : ds_P p) (a0 : a ≠ 0) (ca : c a = 0) (D : ds_D t p dp a g w c) (h : ¬ (c w ≠ 0 ∧ c (ds_up p w) = 0)) : ds_D t p dp a g (w + 1) c := by
  refine ⟨D.1, fun j h1 h6 ht hw hd => ?_⟩
  by_cases e : j = w
  · subst e
    rw [if_pos (by omega)] at hd
    by_cases y : j = a
    · rw [y]; exact ca
    · have q := H.2.2 j h1 h6 ht
      have hW := hw
      rw [ds_wi_up H hp a0 (by omega) h6 ht y] at hW
      have u0 : ds_up p j ≠ 0 := by
        intro z; rw [z, ds_wi_0] at hW; exact absurd hW (by decide)
      have cu : c (ds_up p j) = 0 := D.2 _ (by omega) (hp j h6).1 q.2.2 hW (by omega)
      by_cases z : c j = 0
      · exact z
      · exact absurd ⟨z, cu⟩ h
  · refine D.2 j h1 h6 ht hw ?_
    by_cases l : j < w
    · rw [if_pos l]; rw [if_pos (by omega)] at hd; exact hd
    · rw [if_neg l]; rw [if_neg (by omega)] at hd; exact hd
theorem ds_D_a (a0 : a ≠ 0) (ha : a < 6) (ta : t a ≠ 0) (D : ds_D t p dp a g w c) : c a = 0 :=
  D.2 a (by omega) ha ta (ds_wi_a a0) (by omega)
theorem ds_D_s (D : ds_D t p dp a g 6 c) : ds_D t p dp a (g + 1) 1 c := by
  refine ⟨D.1, fun j h1 h6 ht hw hd => D.2 j h1 h6 ht hw ?_⟩
  rw [if_pos h6]; rw [if_neg (by omega)] at hd; omega
theorem ds_D_e (H : ds_T t p dp) (D : ds_D t p dp a 5 1 c) : c = ds_E t p a := by
  funext j
  show c j = (if 1 ≤ j ∧ j < 6 ∧ t j ≠ 0 ∧ ds_wi p a 6 j = true then 0 else t j)
  by_cases z : 1 ≤ j ∧ j < 6 ∧ t j ≠ 0 ∧ ds_wi p a 6 j = true
  · rw [if_pos z]
    exact D.2 j z.1 z.2.1 z.2.2.1 z.2.2.2 (by have := ds_dp5 H z.2.1 z.2.2.1; omega)
  · rw [if_neg z]
    cases D.1 j with
    | inl e => exact e
    | inr e =>
      by_cases y : t j = 0
      · rw [e.1, y]
      · exact absurd ⟨e.2.1, e.2.2.1, y, e.2.2.2⟩ z
theorem ds_E_y {j : Nat} (h1 : 1 ≤ j) (h6 : j < 6) (h : t j ≠ 0) (hw : ds_wi p a 6 j = true) : ds_E t p a j = 0 := if_pos ⟨h1, h6, h, hw⟩
theorem ds_E_n {j : Nat} (h : ¬ (t j ≠ 0 ∧ ds_wi p a 6 j = true)) : ds_E t p a j = t j := if_neg (fun z => h z.2.2)
theorem ds_E_T (H : ds_T t p dp) (hp : ds_P p) (a0 : a ≠ 0) : ds_T (ds_E t p a) p dp := by
  have e0 : ds_E t p a 0 = t 0 := ds_E_n (by rw [ds_wi_0]; exact fun z => absurd z.2 (by decide))
  refine ⟨H.1, by rw [e0]; exact H.2.1, fun w w1 w6 hw => ?_⟩
  have hn : ¬ (t w ≠ 0 ∧ ds_wi p a 6 w = true) := by
    intro z; exact hw (ds_E_y w1 w6 z.1 z.2)
  have ht : t w ≠ 0 := by rw [ds_E_n hn] at hw; exact hw
  have q := H.2.2 w w1 w6 ht
  refine ⟨q.1, q.2.1, ?_⟩
  have y : w ≠ a := by
    intro y; subst y; exact hn ⟨ht, ds_wi_a a0⟩
  have hu : ¬ (t (ds_up p w) ≠ 0 ∧ ds_wi p a 6 (ds_up p w) = true) := by
    intro z
    rw [← ds_wi_up H hp a0 (by omega) w6 ht y] at z
    exact hn ⟨ht, z.2⟩
  rw [ds_E_n hu]; exact q.2.2
theorem ds_E_01 (h : ∀ j, t j = 0 ∨ t j = 1) : ∀ j, ds_E t p a j = 0 ∨ ds_E t p a j = 1 := by
  intro j
  by_cases z : 1 ≤ j ∧ j < 6 ∧ t j ≠ 0 ∧ ds_wi p a 6 j = true
  · exact Or.inl (if_pos z)
  · have e : ds_E t p a j = t j := if_neg z
    rw [e]; exact h j
end
/-! spoil: the pixels that are done -/
def ds_bf (L U : Int) (W r c : Nat) (j : Nat) : Bool :=
  decide (L ≤ ((j % 12 : Nat) : Int) ∧ ((j % 12 : Nat) : Int) < L + (W : Int) ∧ U ≤ ((j / 12 : Nat) : Int) ∧ (((j / 12 : Nat) : Int) < U + (r : Int) ∨ (((j / 12 : Nat) : Int) = U + (r : Int) ∧ ((j % 12 : Nat) : Int) < L + (c : Int))))
def ds_re (L U : Int) (W V : Nat) (j : Nat) : Bool :=
  decide (L ≤ ((j % 12 : Nat) : Int) ∧ ((j % 12 : Nat) : Int) < L + (W : Int) ∧ U ≤ ((j / 12 : Nat) : Int) ∧ ((j / 12 : Nat) : Int) < U + (V : Int))
def ds_sp (o : Nat → Int32) (w : Int32) (b : Nat → Bool) (cl : Nat → Int32) : Nat → Int32 := fun j => if j < 120 ∧ o j = w ∧ b j = true then 0 else cl j
section
variable {o cl : Nat → Int32} {w : Int32} {b b' : Nat → Bool}
theorem ds_sp_k (h : ∀ j, j < 120 → o j = w → b j = b' j ∨ cl j = 0) : ds_sp o w b cl = ds_sp o w b' cl := by
  funext j
  show (if j < 120 ∧ o j = w ∧ b j = true then 0 else cl j) = (if j < 120 ∧ o j = w ∧ b' j = true then 0 else cl j)
  by_cases z : j < 120 ∧ o j = w
  · cases h j z.1 z.2 with
    | inl e => rw [e]
    | inr e => rw [e]; rw [ite_self, ite_self]
  · rw [if_neg (fun y => z ⟨y.1, y.2.1⟩), if_neg (fun y => z ⟨y.1, y.2.1⟩)]
theorem ds_sp_u {q : Nat} (hq : q < 120) (ho : o q = w) (hb : b' q = true) (h : ∀ j, j < 120 → j ≠ q → b' j = b j) : upd (ds_sp o w b cl) q 0 = ds_sp o w b' cl := by
  funext j
  show (if j = q then 0 else (if j < 120 ∧ o j = w ∧ b j = true then 0 else cl j)) = (if j < 120 ∧ o j = w ∧ b' j = true then 0 else cl j)
  by_cases e : j = q
  · subst e; rw [if_pos rfl, if_pos ⟨hq, ho, hb⟩]
  · rw [if_neg e]
    by_cases z : j < 120
    · rw [h j z e]
    · rw [if_neg (fun y => z y.1), if_neg (fun y => z y.1)]
theorem ds_sp_n {q : Nat} (hb : b q = false) : ds_sp o w b cl q = cl q := if_neg (fun y => by rw [hb] at y; exact absurd y.2.2 (by decide))
theorem ds_sp_0 (h : ∀ j, j < 120 → b j = false) : ds_sp o w b cl = cl := by
  funext j
  exact if_neg (fun y => by rw [h j y.1] at y; exact absurd y.2.2 (by decide))
end
section
variable {L U : Int} {W V r c : Nat}
theorem ds_bf_0 (j : Nat) : ds_bf L U W 0 0 j = false := decide_eq_false (by omega)
theorem ds_bf_r (j : Nat) : ds_bf L U W r W j = ds_bf L U W (r + 1) 0 j := decide_eq_decide.mpr (by omega)
theorem ds_bf_e (j : Nat) : ds_bf L U W V 0 j = ds_re L U W V j := decide_eq_decide.mpr (by omega)
theorem ds_bf_off (h : ¬ (0 ≤ L + (c : Int) ∧ L + (c : Int) < 12 ∧ 0 ≤ U + (r : Int) ∧ U + (r : Int) < 10)) (j : Nat) (hj : j < 120) : ds_bf L U W r c j = ds_bf L U W r (c + 1) j := decide_eq_decide.mpr (by omega)
theorem ds_bf_ne {X Y : Nat} (hX : (X : Int) = L + (c : Int)) (hY : (Y : Int) = U + (r : Int)) (j : Nat) (hj : j ≠ 12 * Y + X) : ds_bf L U W r (c + 1) j = ds_bf L U W r c j := decide_eq_decide.mpr (by omega)
theorem ds_bf_t {X Y : Nat} (hX : (X : Int) = L + (c : Int)) (hY : (Y : Int) = U + (r : Int)) (h12 : X < 12) (hc : c < W) : ds_bf L U W r (c + 1) (12 * Y + X) = true := by
  have e1 : (12 * Y + X) % 12 = X := by omega
  have e2 : (12 * Y + X) / 12 = Y := by omega
  unfold ds_bf
  rw [e1, e2]
  exact decide_eq_true (by omega)
theorem ds_bf_f {X Y : Nat} (hX : (X : Int) = L + (c : Int)) (hY : (Y : Int) = U + (r : Int)) (h12 : X < 12) : ds_bf L U W r c (12 * Y + X) = false := by
  have e1 : (12 * Y + X) % 12 = X := by omega
  have e2 : (12 * Y + X) / 12 = Y := by omega
  unfold ds_bf
  rw [e1, e2]
  exact decide_eq_false (by omega)
end
end
section
/-! sides, wide -/
def ds_ln (s : Int32) : Int32 := if s = 0 then 1 else if 12 < s then 12 else s
theorem ds_ln_t : ∀ j, j < 16 → 0 ≤ (ds_ln (nI j)).toInt ∧ (ds_ln (nI j)).toInt ≤ 12 := by decide +kernel
theorem ds_ln_b (s : Int32) : 0 ≤ (ds_ln (s &&& 15)).toInt ∧ (ds_ln (s &&& 15)).toInt ≤ 12 := by
  obtain ⟨j, hj, e⟩ := pk_andE s (m := 15) 4 (by decide)
  rw [e]
  exact ds_ln_t j hj
theorem ds_15 : (15 : Int32).toInt = 15 := by decide
theorem ds_255 : (255 : Int32).toInt = 255 := by decide
theorem ds_w1 {z : Int32} (h : ¬ z >>> ((4 : Int32) &&& 31) < 0) (h' : z >>> ((4 : Int32) &&& 31) ≤ 15) : ∃ q : Nat, q < 256 ∧ z = nI q := by
  have e : (z >>> ((4 : Int32) &&& 31)).toInt = z.toInt >>> 4 := pk_shr z ((4 : Int32) &&& 31) 4 (by decide)
  rw [Int32.lt_iff_toInt_lt, e, ds_i0, Int.shiftRight_eq_div_pow] at h
  rw [Int32.le_iff_toInt_le, e, ds_15, Int.shiftRight_eq_div_pow] at h'
  have e2 : ((2 ^ 4 : Nat) : Int) = 16 := by decide
  rw [e2] at h h'
  have z0 : ¬ z < 0 := by rw [Int32.lt_iff_toInt_lt, ds_i0]; omega
  obtain ⟨q, hq, rfl⟩ := nI_of z0
  rw [nI_toInt hq] at h'
  exact ⟨q, by omega, rfl⟩
theorem ds_w2 {q : Nat} (h : q < 256) : nI q >>> ((4 : Int32) &&& 31) = nI (q / 16) := pk_shrN (by omega) ((4 : Int32) &&& 31) 4 (by decide)
theorem ds_w3 {q : Nat} (h : q < 256) : nI q &&& 15 = nI (q % 16) := pk_andN (by omega) (m := 15) 4 (by decide)
/-! kept -/
def ds_k (A B : Int32) (fo fc : Nat → Int32) (w : Nat) : Int32 :=
  if 0 ≤ A ∧ A < 12 ∧ 0 ≤ B ∧ B < 10 ∧ fo (12 * B.toNatClampNeg + A.toNatClampNeg) = nI w ∧ fc (12 * B.toNatClampNeg + A.toNatClampNeg) ≠ 0 then 1 else 0
theorem ds_k_01 (A B : Int32) (fo fc : Nat → Int32) (w : Nat) : ds_k A B fo fc w = 0 ∨ ds_k A B fo fc w = 1 := by
  unfold ds_k
  by_cases h : 0 ≤ A ∧ A < 12 ∧ 0 ≤ B ∧ B < 10 ∧ fo (12 * B.toNatClampNeg + A.toNatClampNeg) = nI w ∧ fc (12 * B.toNatClampNeg + A.toNatClampNeg) ≠ 0
  · rw [if_pos h]; exact Or.inr rfl
  · rw [if_neg h]; exact Or.inl rfl
theorem ds_le_of {A : Int32} {N : Nat} (hN : N < 2 ^ 31) (h0 : 0 ≤ A) (h : A < nI N) : ∃ a : Nat, a < N ∧ A = nI a := by
  obtain ⟨a, ha, rfl⟩ := nI_of (x := A) (Int32.not_lt.mpr h0)
  rw [nI_ltI ha hN] at h
  exact ⟨a, h, rfl⟩
theorem ds_k_ix {A B : Int32} (h1 : 0 ≤ A) (h2 : A < 12) (h3 : 0 ≤ B) (h4 : B < 10) : ∃ a b : Nat, a < 12 ∧ b < 10 ∧ A = nI a ∧ B = nI b := by
  obtain ⟨a, ha, rfl⟩ := ds_le_of (N := 12) (by decide) h1 h2
  obtain ⟨b, hb, rfl⟩ := ds_le_of (N := 10) (by decide) h3 h4
  exact ⟨a, b, ha, hb, rfl, rfl⟩
theorem ds_k_lt {A B : Int32} (h1 : 0 ≤ A) (h2 : A < 12) (h3 : 0 ≤ B) (h4 : B < 10) : 12 * B.toNatClampNeg + A.toNatClampNeg < 120 := by
  obtain ⟨a, b, ha, hb, rfl, rfl⟩ := ds_k_ix h1 h2 h3 h4
  rw [nI_clamp (by omega), nI_clamp (by omega)]
  omega
theorem ds_k_0 {A B : Int32} {fo fc : Nat → Int32} {w : Nat} (h : ∀ j, j < 120 → fo j ≠ nI w) : ds_k A B fo fc w = 0 :=
  if_neg (fun z => h _ (ds_k_lt z.1 z.2.1 z.2.2.1 z.2.2.2.1) z.2.2.2.2.1)
theorem ds_k_c {A B : Int32} {fo fc fo' fc' : Nat → Int32} {w : Nat} (h : ∀ j, j < 120 → fo j = fo' j ∧ fc j = fc' j) : ds_k A B fo fc w = ds_k A B fo' fc' w := by
  unfold ds_k
  by_cases z : 0 ≤ A ∧ A < 12 ∧ 0 ≤ B ∧ B < 10
  · have e := h _ (ds_k_lt z.1 z.2.1 z.2.2.1 z.2.2.2)
    rw [e.1, e.2]
  · rw [if_neg (fun y => z ⟨y.1, y.2.1, y.2.2.1, y.2.2.2.1⟩), if_neg (fun y => z ⟨y.1, y.2.1, y.2.2.1, y.2.2.2.1⟩)]
end
section
/-! X: what only reads -/
theorem ds_nar0 : vp_nar .boolean 0 = 0 := by decide
theorem ds_nar1 : vp_nar .boolean 1 = 1 := by decide
theorem ds_nar {x : Int32} (h : x = 0 ∨ x = 1) : vp_nar .boolean x = x := by
  cases h with
  | inl h => rw [h]; exact ds_nar0
  | inr h => rw [h]; exact ds_nar1
section
variable {T B : Int32} {t p dx dy wd hg sh lv cx cy ow cl fx fy fo fc : Nat → Int32}
theorem xl_there_y {post : Int32 → Prop} {a : Nat} (ha : a < 6) (h : t a ≠ 0) (k : post 1) : wpX_isThere post (T, B, t, p, dx, dy, wd, hg, sh, lv, cx, cy, ow, cl, fx, fy, fo, fc) (nI a) :=
  br_f (nI_pos (by omega)) (br_f (nI_ge (b := 6) ha (by decide)) ⟨vp_in_nI ha (by decide), by rw [nI_clamp (by omega)]; exact br_f h k⟩)
theorem xl_there_n {post : Int32 → Prop} {w : Int32} (h : ¬ ∃ a : Nat, a < 6 ∧ w = nI a ∧ t a ≠ 0) (k : post 0) : wpX_isThere post (T, B, t, p, dx, dy, wd, hg, sh, lv, cx, cy, ow, cl, fx, fy, fo, fc) w := by
  rcases pk_ix w (n := 6) (by decide) with h0 | h0 | ⟨a, ha, rfl⟩
  · exact br_t h0 k
  · exact br_c (fun _ => k) (fun _ => br_t h0 k)
  · have z : t a = 0 := Classical.byContradiction fun z => h ⟨a, ha, rfl, z⟩
    exact br_f (nI_pos (by omega)) (br_f (nI_ge (b := 6) ha (by decide)) ⟨vp_in_nI ha (by decide), by rw [nI_clamp (by omega)]; exact br_t z k⟩)
theorem xl_chg_y {post : Int32 → Prop} {a : Nat} (h0 : a ≠ 0) (ha : a < 6) (h : t a ≠ 0) (k : post 1) : wpX_isChangeable post (T, B, t, p, dx, dy, wd, hg, sh, lv, cx, cy, ow, cl, fx, fy, fo, fc) (nI a) :=
  br_f (nI_ne0 (by omega) (by omega)) (xl_there_y ha h (br_f (by decide) k))
theorem xl_chg_n {post : Int32 → Prop} {w : Int32} (h : ¬ ∃ a : Nat, a ≠ 0 ∧ a < 6 ∧ w = nI a ∧ t a ≠ 0) (k : post 0) : wpX_isChangeable post (T, B, t, p, dx, dy, wd, hg, sh, lv, cx, cy, ow, cl, fx, fy, fo, fc) w := by
  by_cases z : w = 0
  · exact br_t z k
  · refine br_f z (xl_there_n (fun e => ?_) (br_t rfl k))
    obtain ⟨a, ha, e, ht⟩ := e
    exact h ⟨a, fun y => z (by rw [e, y]; rfl), ha, e, ht⟩
theorem xl_side {post : Int32 → Prop} {s : Int32} (k : post (ds_ln s)) : wpX_sideOf post s := by
  unfold ds_ln at k
  by_cases z : s = 0
  · rw [if_pos z] at k; exact br_t z k
  · rw [if_neg z] at k
    by_cases y : 12 < s
    · rw [if_pos y] at k; exact br_f z (br_f (Int32.not_le.mpr y) k)
    · rw [if_neg y] at k; exact br_f z (br_t (Int32.not_lt.mp y) k)
theorem xl_cov {post : Int32 → Prop} {c x y : Nat} (hc : c < 6) (ex : cx c = ds_cs dx p 5 c 0) (ey : cy c = ds_cs dy p 5 c 0)
    (k1 : ds_C p dx dy wd hg sh x y c = true → post 1) (k0 : ds_C p dx dy wd hg sh x y c = false → post 0) : wpX_covers post (T, B, t, p, dx, dy, wd, hg, sh, lv, cx, cy, ow, cl, fx, fy, fo, fc) (nI c) (nI x) (nI y) := by
  have hv : vp_in (nI c) 6 := vp_in_nI hc (by decide)
  have e := nI_clamp (n := c) (by omega)
  have no : ¬ (sh c ≠ 0 ∧ 0 ≤ nI x - ds_cs dx p 5 c 0 ∧ nI x - ds_cs dx p 5 c 0 < wd c ∧ 0 ≤ nI y - ds_cs dy p 5 c 0 ∧ nI y - ds_cs dy p 5 c 0 < hg c) → post 0 := fun z => k0 (decide_eq_false z)
  refine ⟨hv, nm_e ⟨hv, nm_e ⟨hv, ?_⟩⟩⟩
  rw [e, ex, ey]
  refine br_c (fun z => no (fun q => q.1 z)) (fun z1 => br_c (fun z => no (fun q => Int32.not_lt.mpr q.2.1 z)) (fun z2 => ⟨hv, br_c (fun z => no (fun q => Int32.not_le.mpr q.2.2.1 z)) (fun z3 => br_c (fun z => no (fun q => Int32.not_lt.mpr q.2.2.2.1 z)) (fun z4 => ⟨hv, br_c (fun z => no (fun q => Int32.not_le.mpr q.2.2.2.2 z)) (fun z5 => ?_)⟩))⟩))
  exact k1 (decide_eq_true ⟨z1, Int32.not_lt.mp z2, Int32.not_le.mp z3, Int32.not_lt.mp z4, Int32.not_le.mp z5⟩)
end
/-- a topmost window as an int: 0 is none -/
def ds_en (b : Nat) : Int32 := if b = 0 then -1 else nI b
theorem ds_en_n {b : Nat} (h : b ≠ 0) : ds_en b = nI b := if_neg h
theorem ds_en_0 : ds_en 0 = -1 := rfl
theorem ds_en_m {b : Nat} (h : b ≠ 0) (hb : b < 6) : ¬ ds_en b = -1 := by
  rw [ds_en_n h]
  intro z
  have e : (nI b).toInt = (-1 : Int32).toInt := by rw [z]
  rw [nI_toInt (by omega), show (-1 : Int32).toInt = -1 from by decide] at e
  omega
section
variable {T B : Int32} {t p dx dy wd hg sh lv cx cy ow cl fx fy fo fc : Nat → Int32} {x y : Nat}
theorem xl_tm {post : Int32 → Prop} {a : Nat} (hcx : ∀ c, c < 6 → t c ≠ 0 → cx c = ds_cs dx p 5 c 0 ∧ cy c = ds_cs dy p 5 c 0) : ∀ (m c b n : Nat), 1 ≤ c → c + m = 6 → b < 6 → m < n →
    post (ds_en (ds_tm (ds_q t p dx dy wd hg sh x y a) lv m c b)) → wX_topmostInside_6 post (nI a) (nI x) (nI y) T B t p dx dy wd hg sh lv cx cy ow cl fx fy fo fc n (ds_en b) (nI c) := by
  intro m
  induction m with
  | zero =>
    intro c b n h1 hc hb hn k
    obtain ⟨n, rfl⟩ : ∃ n', n = n' + 1 := ⟨n - 1, by omega⟩
    have e : c = 6 := by omega
    subst e
    exact br_t (by decide) k
  | succ m ih =>
    intro c b n h1 hc hb hn k
    obtain ⟨n, rfl⟩ : ∃ n', n = n' + 1 := ⟨n - 1, by omega⟩
    have hv : vp_in (nI c) 6 := vp_in_nI (by omega) (by decide)
    have e := nI_clamp (n := c) (by omega)
    have no : ¬ (ds_q t p dx dy wd hg sh x y a c = true ∧ (b = 0 ∨ lv b < lv c)) → wX_topmostInside_6 post (nI a) (nI x) (nI y) T B t p dx dy wd hg sh lv cx cy ow cl fx fy fo fc n (ds_en b) (nI (c + 1)) := by
      intro z
      rw [ds_tm_n z] at k
      exact ih (c + 1) b n (by omega) (by omega) hb (by omega) k
    have ye : (ds_q t p dx dy wd hg sh x y a c = true ∧ (b = 0 ∨ lv b < lv c)) → wX_topmostInside_6 post (nI a) (nI x) (nI y) T B t p dx dy wd hg sh lv cx cy ow cl fx fy fo fc n (nI c) (nI (c + 1)) := by
      intro z
      rw [ds_tm_y z] at k
      rw [← ds_en_n (show c ≠ 0 by omega)]
      exact ih (c + 1) c n (by omega) (by omega) (by omega) (by omega) k
    refine br_f (nI_ge (b := 6) (by omega) (by decide)) ⟨hv, ?_⟩
    rw [e]
    refine br_c (fun z => nm_r (nI_1 c) (no (fun q => (of_decide_eq_true q.1).1 z))) (fun z1 => ⟨hv, ?_⟩)
    refine br_c (fun z2 => ?_) (fun z => nm_r (nI_1 c) (no (fun q => z (of_decide_eq_true q.1).2.1)))
    have hC := hcx c (by omega) z1
    refine xl_cov (by omega) hC.1 hC.2 (fun cv => br_f (by decide) ?_) (fun cv => br_t rfl (nm_r (nI_1 c) (no (fun q => ?_))))
    · have q1 : ds_q t p dx dy wd hg sh x y a c = true := decide_eq_true ⟨z1, z2, cv⟩
      by_cases b0 : b = 0
      · subst b0
        exact br_t rfl (nm_r (nI_1 c) (ye ⟨q1, Or.inl rfl⟩))
      · refine br_f (ds_en_m b0 hb) ⟨hv, ?_⟩
        rw [ds_en_n b0, nI_clamp (n := b) (by omega)]
        refine ⟨vp_in_nI hb (by decide), br_c (fun z => ?_) (fun z => ?_)⟩
        · have := no (fun q => q.2.elim b0 (fun l => Int32.not_le.mpr l z))
          rw [ds_en_n b0] at this
          exact nm_r (nI_1 c) this
        · exact nm_r (nI_1 c) (ye ⟨q1, Or.inr (Int32.not_le.mp z)⟩)
    · have := (of_decide_eq_true q.1).2.2
      rw [cv] at this
      exact absurd this (by decide)
theorem xl_top {post : Int32 → Prop} {a : Nat} (hcx : ∀ c, c < 6 → t c ≠ 0 → cx c = ds_cs dx p 5 c 0 ∧ cy c = ds_cs dy p 5 c 0)
    (k : post (ds_en (ds_nx t p dx dy wd hg sh lv x y a))) : wpX_topmostInside post (T, B, t, p, dx, dy, wd, hg, sh, lv, cx, cy, ow, cl, fx, fy, fo, fc) (nI a) (nI x) (nI y) :=
  ⟨6, xl_tm hcx 5 1 0 6 (by omega) (by omega) (by omega) (by omega) k⟩
theorem xl_ow {post : Int32 → Prop} (hcx : ∀ c, c < 6 → t c ≠ 0 → cx c = ds_cs dx p 5 c 0 ∧ cy c = ds_cs dy p 5 c 0) : ∀ (m a s n : Nat), s + m = 6 → m < n →
    post (nI (ds_ow (ds_nx t p dx dy wd hg sh lv x y) m a)) → wX_findOwner_5 post (nI x) (nI y) T B t p dx dy wd hg sh lv cx cy ow cl fx fy fo fc n (nI a) (nI s) := by
  intro m
  induction m with
  | zero =>
    intro a s n hs hn k
    obtain ⟨n, rfl⟩ : ∃ n', n = n' + 1 := ⟨n - 1, by omega⟩
    have e : s = 6 := by omega
    subst e
    exact br_t (by decide) k
  | succ m ih =>
    intro a s n hs hn k
    obtain ⟨n, rfl⟩ : ∃ n', n = n' + 1 := ⟨n - 1, by omega⟩
    refine br_f (nI_ge (b := 6) (by omega) (by decide)) (xl_top hcx ?_)
    by_cases z : ds_nx t p dx dy wd hg sh lv x y a = 0
    · rw [ds_ow_y z] at k
      rw [z]
      exact br_t rfl k
    · rw [ds_ow_n z] at k
      have b6 : ds_nx t p dx dy wd hg sh lv x y a < 6 := by
        cases ds_nx_in (t := t) (p := p) (dx := dx) (dy := dy) (wd := wd) (hg := hg) (sh := sh) (lv := lv) (x := x) (y := y) (a := a) with
        | inl e => exact absurd e z
        | inr e => exact e.2.1
      refine br_f (ds_en_m z b6) (nm_r (nI_1 s) ?_)
      rw [ds_en_n z]
      exact ih _ (s + 1) n (by omega) (by omega) k
theorem xl_find {post : Int32 → Prop} (hcx : ∀ c, c < 6 → t c ≠ 0 → cx c = ds_cs dx p 5 c 0 ∧ cy c = ds_cs dy p 5 c 0)
    (k : post (nI (ds_O t p dx dy wd hg sh lv x y))) : wpX_findOwner post (T, B, t, p, dx, dy, wd, hg, sh, lv, cx, cy, ow, cl, fx, fy, fo, fc) (nI x) (nI y) :=
  ⟨6, xl_ow hcx 5 0 1 6 (by omega) (by omega) k⟩
end
end
section
/-! X: settle -/
theorem xl_on {post : Int32 → Prop} {A D : Int32} (k1 : 0 ≤ A ∧ A < 12 ∧ 0 ≤ D ∧ D < 10 → post 1) (k0 : ¬ (0 ≤ A ∧ A < 12 ∧ 0 ≤ D ∧ D < 10) → post 0) : wpX_isOnScreen post A D :=
  br_c (fun z => k0 (fun q => Int32.not_lt.mpr q.1 z)) (fun z1 => br_c (fun z => k0 (fun q => Int32.not_le.mpr q.2.1 z)) (fun z2 => br_c (fun z => k0 (fun q => Int32.not_lt.mpr q.2.2.1 z)) (fun z3 => br_c (fun z => k0 (fun q => Int32.not_le.mpr q.2.2.2 z)) (fun z4 =>
    k1 ⟨Int32.not_lt.mp z1, Int32.not_le.mp z2, Int32.not_lt.mp z3, Int32.not_le.mp z4⟩))))
theorem ds_ix (a b : Nat) : nI b * 12 + nI a = nI (12 * b + a) := by
  rw [show (12 : Int32) = nI 12 from rfl, pk_mul, nI_add, Nat.mul_comm]
theorem xl_pix {post : Int32 → Prop} {a b : Nat} (k : post (nI (12 * b + a))) : wpX_pixelAt post (nI a) (nI b) := by
  show post (nI b * 12 + nI a)
  rw [ds_ix]; exact k
def ds_nc (t d p c : Nat → Int32) : Nat → Int32 := fun j => if j ≠ 0 ∧ t j ≠ 0 then ds_cs d p 5 j 0 else c j
section
variable {T B : Int32} {t p dx dy wd hg sh lv cx cy ow cl fx fy fo fc : Nat → Int32}
theorem xl_car {post : Int32 → Prop} {w x y : Nat} (hw : w < 6) (k : post (ds_k (nI x - cx w + fx w) (nI y - cy w + fy w) fo fc w)) : wpX_isCarriedClean post (T, B, t, p, dx, dy, wd, hg, sh, lv, cx, cy, ow, cl, fx, fy, fo, fc) (nI w) (nI x) (nI y) := by
  have hv : vp_in (nI w) 6 := vp_in_nI hw (by decide)
  have e := nI_clamp (n := w) (by omega)
  refine ⟨hv, hv, fun x4 e4 => ⟨hv, hv, fun x5 e5 => ?_⟩⟩
  rw [e] at e4 e5
  rw [← e4, ← e5] at k
  refine xl_on (fun z => br_f (by decide) ?_) (fun z => br_t rfl ?_)
  · obtain ⟨a, b, ha, hb, rfl, rfl⟩ := ds_k_ix z.1 z.2.1 z.2.2.1 z.2.2.2
    refine xl_pix ?_
    have hq : vp_in (nI (12 * b + a)) 120 := vp_in_nI (by omega) (by decide)
    refine ⟨hq, ?_⟩
    rw [nI_clamp (n := 12 * b + a) (by omega)]
    unfold ds_k at k
    rw [nI_clamp (n := a) (by omega), nI_clamp (n := b) (by omega)] at k
    refine br_c (fun o => ⟨hq, br_c (fun c => ?_) (fun c => ?_)⟩) (fun o => ?_)
    · rw [if_neg (fun q => q.2.2.2.2.2 c)] at k; exact k
    · rw [if_pos ⟨z.1, z.2.1, z.2.2.1, z.2.2.2, o, c⟩] at k; exact k
    · rw [if_neg (fun q => o q.2.2.2.2.1)] at k; exact k
  · unfold ds_k at k
    rw [if_neg (fun q => z ⟨q.1, q.2.1, q.2.2.1, q.2.2.2.1⟩)] at k
    exact k
theorem xl_kf40 {post : SX → Prop} (k : post (T, B, t, p, dx, dy, wd, hg, sh, lv, cx, cy, ow, cl, fx, fy, ds_fl 120 ow fo, ds_fl 120 (fun j => vp_nar .boolean (cl j)) fc)) : ∀ m i n, i + m = 120 → m < n →
    wX_keepFormer_40 post T B n (nI i) t p dx dy wd hg sh lv cx cy ow cl fx fy (ds_fl i ow fo) (ds_fl i (fun j => vp_nar .boolean (cl j)) fc) := by
  intro m
  induction m with
  | zero =>
    intro i n hi hn
    obtain ⟨n, rfl⟩ : ∃ n', n = n' + 1 := ⟨n - 1, by omega⟩
    have e : i = 120 := by omega
    subst e
    exact br_t (by decide) k
  | succ m ih =>
    intro i n hi hn
    obtain ⟨n, rfl⟩ : ∃ n', n = n' + 1 := ⟨n - 1, by omega⟩
    have hv : vp_in (nI i) 120 := vp_in_nI (by omega) (by decide)
    have e := nI_clamp (n := i) (by omega)
    exact br_f (nI_ge (b := 120) (by omega) (by decide)) ⟨hv, hv, nm_r (by rw [e]; exact ds_fl_s rfl) ⟨hv, hv, nm_r (by rw [e]; exact ds_fl_s rfl) (nm_r (nI_1 i) (ih (i + 1) n (by omega) (by omega)))⟩⟩
theorem xl_kf2 {post : SX → Prop} (k : post (T, B, t, p, dx, dy, wd, hg, sh, lv, cx, cy, ow, cl, ds_fl 6 cx fx, ds_fl 6 cy fy, ds_fl 120 ow fo, ds_fl 120 (fun j => vp_nar .boolean (cl j)) fc)) : ∀ m i n, i + m = 6 → m < n →
    wX_keepFormer_2 post T B n (nI i) t p dx dy wd hg sh lv cx cy ow cl (ds_fl i cx fx) (ds_fl i cy fy) fo fc := by
  intro m
  induction m with
  | zero =>
    intro i n hi hn
    obtain ⟨n, rfl⟩ : ∃ n', n = n' + 1 := ⟨n - 1, by omega⟩
    have e : i = 6 := by omega
    subst e
    have h := xl_kf40 (fx := ds_fl 6 cx fx) (fy := ds_fl 6 cy fy) k 120 0 121 (by omega) (by omega)
    rw [ds_fl_0, ds_fl_0] at h
    exact br_t (by decide) ⟨121, h⟩
  | succ m ih =>
    intro i n hi hn
    obtain ⟨n, rfl⟩ : ∃ n', n = n' + 1 := ⟨n - 1, by omega⟩
    have hv : vp_in (nI i) 6 := vp_in_nI (by omega) (by decide)
    have e := nI_clamp (n := i) (by omega)
    exact br_f (nI_ge (b := 6) (by omega) (by decide)) ⟨hv, hv, nm_r (by rw [e]; exact ds_fl_s rfl) ⟨hv, hv, nm_r (by rw [e]; exact ds_fl_s rfl) (nm_r (nI_1 i) (ih (i + 1) n (by omega) (by omega)))⟩⟩
theorem xl_keep {post : SX → Prop} (k : post (T, B, t, p, dx, dy, wd, hg, sh, lv, cx, cy, ow, cl, ds_fl 6 cx fx, ds_fl 6 cy fy, ds_fl 120 ow fo, ds_fl 120 (fun j => vp_nar .boolean (cl j)) fc)) : wpX_keepFormer post (T, B, t, p, dx, dy, wd, hg, sh, lv, cx, cy, ow, cl, fx, fy, fo, fc) := by
  have h := xl_kf2 k 6 0 7 (by omega) (by omega)
  rw [ds_fl_0, ds_fl_0] at h
  exact ⟨7, h⟩
theorem xl_pc10 {post : SX → Prop} {w : Nat} (hp : ds_P p) : ∀ m a s n (sx sy : Int32), a < 6 → s + m = 6 → m < n → wX_placeCorner_57 post (nI w) (ds_cs dx p m a sx) (ds_cs dy p m a sy) T B t p dx dy wd hg sh lv cx cy ow cl fx fy fo fc →
    wX_placeCorner_10 post (nI w) T B t p dx dy wd hg sh lv cx cy ow cl fx fy fo fc n sx sy (nI a) (nI s) := by
  intro m
  induction m with
  | zero =>
    intro a s n sx sy ha hs hn k
    obtain ⟨n, rfl⟩ : ∃ n', n = n' + 1 := ⟨n - 1, by omega⟩
    have e : s = 6 := by omega
    subst e
    exact br_t (by decide) k
  | succ m ih =>
    intro a s n sx sy ha hs hn k
    obtain ⟨n, rfl⟩ : ∃ n', n = n' + 1 := ⟨n - 1, by omega⟩
    have hv : vp_in (nI a) 6 := vp_in_nI (by omega) (by decide)
    have e := nI_clamp (n := a) (by omega)
    by_cases z : a = 0
    · subst z
      rw [ds_cs_0, ds_cs_0] at k
      exact br_f (nI_ge (b := 6) (by omega) (by decide)) (br_t rfl k)
    · rw [ds_cs_n z, ds_cs_n z] at k
      exact br_f (nI_ge (b := 6) (by omega) (by decide)) (br_f (nI_ne0 (by omega) (by omega)) ⟨hv, nm_r (by rw [e]) ⟨hv, nm_r (by rw [e]) ⟨hv, nm_r (by rw [e]; exact (hp a ha).2) (nm_r (nI_1 s) (ih (ds_up p a) (s + 1) n _ _ (hp a ha).1 (by omega) (by omega) k))⟩⟩⟩)
theorem xl_place {post : SX → Prop} {w : Nat} (hp : ds_P p) (hw : w < 6) (k : post (T, B, t, p, dx, dy, wd, hg, sh, lv, upd cx w (ds_cs dx p 5 w 0), upd cy w (ds_cs dy p 5 w 0), ow, cl, fx, fy, fo, fc)) : wpX_placeCorner post (T, B, t, p, dx, dy, wd, hg, sh, lv, cx, cy, ow, cl, fx, fy, fo, fc) (nI w) := by
  have hv : vp_in (nI w) 6 := vp_in_nI (by omega) (by decide)
  have e := nI_clamp (n := w) (by omega)
  exact ⟨6, xl_pc10 hp 5 w 1 6 0 0 hw (by omega) (by omega) ⟨hv, nm_r (by rw [e]) ⟨hv, nm_r (by rw [e]) k⟩⟩⟩
theorem xl_pl2 {post : SX → Prop} (hp : ds_P p) (k : post (T, B, t, p, dx, dy, wd, hg, sh, lv, ds_fl 6 (ds_nc t dx p cx) cx, ds_fl 6 (ds_nc t dy p cy) cy, ow, cl, fx, fy, fo, fc)) : ∀ m i n, 1 ≤ i → i + m = 6 → m < n →
    wX_placeCorners_2 post n (nI i) T B t p dx dy wd hg sh lv (ds_fl i (ds_nc t dx p cx) cx) (ds_fl i (ds_nc t dy p cy) cy) ow cl fx fy fo fc := by
  intro m
  induction m with
  | zero =>
    intro i n h1 hi hn
    obtain ⟨n, rfl⟩ : ∃ n', n = n' + 1 := ⟨n - 1, by omega⟩
    have e : i = 6 := by omega
    subst e
    exact br_t (by decide) k
  | succ m ih =>
    intro i n h1 hi hn
    obtain ⟨n, rfl⟩ : ∃ n', n = n' + 1 := ⟨n - 1, by omega⟩
    have hv : vp_in (nI i) 6 := vp_in_nI (by omega) (by decide)
    have e := nI_clamp (n := i) (by omega)
    have ih' := ih (i + 1) n (by omega) (by omega) (by omega)
    refine br_f (nI_ge (b := 6) (by omega) (by decide)) ⟨hv, ?_⟩
    rw [e]
    refine br_c (fun z => nm_r (nI_1 i) ?_) (fun z => xl_place hp (by omega) (nm_r (nI_1 i) ?_))
    · have e1 : ds_nc t dx p cx i = cx i := if_neg (fun q => q.2 z)
      have e2 : ds_nc t dy p cy i = cy i := if_neg (fun q => q.2 z)
      rw [ds_fl_k e1, ds_fl_k e2] at ih'
      exact ih'
    · have e1 : ds_cs dx p 5 i 0 = ds_nc t dx p cx i := (if_pos ⟨by omega, z⟩).symm
      have e2 : ds_cs dy p 5 i 0 = ds_nc t dy p cy i := (if_pos ⟨by omega, z⟩).symm
      rw [ds_fl_s e1, ds_fl_s e2]
      exact ih'
theorem ds_fl_1 {g a : Nat → Int32} (h : g 0 = a 0) : ds_fl 1 g a = a := by
  rw [ds_fl_k h, ds_fl_0]
theorem xl_places {post : SX → Prop} (hp : ds_P p) (k : post (T, B, t, p, dx, dy, wd, hg, sh, lv, ds_fl 6 (ds_nc t dx p cx) cx, ds_fl 6 (ds_nc t dy p cy) cy, ow, cl, fx, fy, fo, fc)) : wpX_placeCorners post (T, B, t, p, dx, dy, wd, hg, sh, lv, cx, cy, ow, cl, fx, fy, fo, fc) := by
  have h := xl_pl2 hp k 5 1 6 (by omega) (by omega) (by omega)
  rw [ds_fl_1 (if_neg (fun q => q.1 rfl)), ds_fl_1 (if_neg (fun q => q.1 rfl))] at h
  exact ⟨6, h⟩
def ds_g (t p dx dy wd hg sh lv : Nat → Int32) : Nat → Int32 := fun j => nI (ds_O t p dx dy wd hg sh lv (j % 12) (j / 12))
theorem xl_ao10 {post : SX → Prop} {J : Int32 → (Nat → Int32) → (Nat → Int32) → (Nat → Int32) → (Nat → Int32) → (Nat → Int32) → (Nat → Int32) → (Nat → Int32) → (Nat → Int32) → (Nat → Int32) → (Nat → Int32) → (Nat → Int32) → (Nat → Int32) → (Nat → Int32) → (Nat → Int32) → (Nat → Int32) → (Nat → Int32) → Prop} {y : Nat} (hy : y < 10)
    (hcx : ∀ c, c < 6 → t c ≠ 0 → cx c = ds_cs dx p 5 c 0 ∧ cy c = ds_cs dy p 5 c 0) (k : J (nI (y + 1)) t p dx dy wd hg sh lv cx cy (ds_fl (12 * (y + 1)) (ds_g t p dx dy wd hg sh lv) ow) cl fx fy fo fc) : ∀ m x n, x + m = 12 → m < n →
    wX_assignOwners_10 post J (nI y) T B n (nI x) t p dx dy wd hg sh lv cx cy (ds_fl (12 * y + x) (ds_g t p dx dy wd hg sh lv) ow) cl fx fy fo fc := by
  intro m
  induction m with
  | zero =>
    intro x n hx hn
    obtain ⟨n, rfl⟩ : ∃ n', n = n' + 1 := ⟨n - 1, by omega⟩
    have e : x = 12 := by omega
    subst e
    exact br_t (by decide) (nm_r (nI_1 y) k)
  | succ m ih =>
    intro x n hx hn
    obtain ⟨n, rfl⟩ : ∃ n', n = n' + 1 := ⟨n - 1, by omega⟩
    have hv : vp_in (nI (12 * y + x)) 120 := vp_in_nI (by omega) (by decide)
    have e := nI_clamp (n := 12 * y + x) (by omega)
    have eg : nI (ds_O t p dx dy wd hg sh lv x y) = ds_g t p dx dy wd hg sh lv (12 * y + x) := by
      unfold ds_g
      rw [show (12 * y + x) % 12 = x by omega, show (12 * y + x) / 12 = y by omega]
    exact br_f (nI_ge (b := 12) (by omega) (by decide)) (xl_pix (xl_find hcx ⟨hv, nm_r (by rw [e]; exact ds_fl_s eg) (nm_r (nI_1 x) (ih (x + 1) n (by omega) (by omega)))⟩))
theorem xl_ao2 {post : SX → Prop} (hcx : ∀ c, c < 6 → t c ≠ 0 → cx c = ds_cs dx p 5 c 0 ∧ cy c = ds_cs dy p 5 c 0) (k : post (T, B, t, p, dx, dy, wd, hg, sh, lv, cx, cy, ds_fl 120 (ds_g t p dx dy wd hg sh lv) ow, cl, fx, fy, fo, fc)) : ∀ m y n, y + m = 10 → m < n →
    wX_assignOwners_2 post T B n (nI y) t p dx dy wd hg sh lv cx cy (ds_fl (12 * y) (ds_g t p dx dy wd hg sh lv) ow) cl fx fy fo fc := by
  intro m
  induction m with
  | zero =>
    intro y n hy hn
    obtain ⟨n, rfl⟩ : ∃ n', n = n' + 1 := ⟨n - 1, by omega⟩
    have e : y = 10 := by omega
    subst e
    exact br_t (by decide) k
  | succ m ih =>
    intro y n hy hn
    obtain ⟨n, rfl⟩ : ∃ n', n = n' + 1 := ⟨n - 1, by omega⟩
    exact br_f (nI_ge (b := 10) (by omega) (by decide)) ⟨13, xl_ao10 (by omega) hcx (ih (y + 1) n (by omega) (by omega)) 12 0 13 (by omega) (by omega)⟩
theorem xl_assign {post : SX → Prop} (hcx : ∀ c, c < 6 → t c ≠ 0 → cx c = ds_cs dx p 5 c 0 ∧ cy c = ds_cs dy p 5 c 0) (k : post (T, B, t, p, dx, dy, wd, hg, sh, lv, cx, cy, ds_fl 120 (ds_g t p dx dy wd hg sh lv) ow, cl, fx, fy, fo, fc)) : wpX_assignOwners post (T, B, t, p, dx, dy, wd, hg, sh, lv, cx, cy, ow, cl, fx, fy, fo, fc) := by
  have h := xl_ao2 hcx k 10 0 11 (by omega) (by omega)
  rw [show 12 * 0 = 0 from rfl, ds_fl_0] at h
  exact ⟨11, h⟩
/-- what carryClean writes, W the owners -/
def ds_h (cx cy fx fy fo fc : Nat → Int32) (W : Nat → Nat) : Nat → Int32 := fun j => vp_nar .boolean (ds_k (nI (j % 12) - cx (W j) + fx (W j)) (nI (j / 12) - cy (W j) + fy (W j)) fo fc (W j))
theorem xl_cc10 {post : SX → Prop} {J : Int32 → (Nat → Int32) → (Nat → Int32) → (Nat → Int32) → (Nat → Int32) → (Nat → Int32) → (Nat → Int32) → (Nat → Int32) → (Nat → Int32) → (Nat → Int32) → (Nat → Int32) → (Nat → Int32) → (Nat → Int32) → (Nat → Int32) → (Nat → Int32) → (Nat → Int32) → (Nat → Int32) → Prop} {y : Nat} (hy : y < 10) {W : Nat → Nat}
    (how : ∀ j, j < 120 → ow j = nI (W j) ∧ W j < 6) (k : J (nI (y + 1)) t p dx dy wd hg sh lv cx cy ow (ds_fl (12 * (y + 1)) (ds_h cx cy fx fy fo fc W) cl) fx fy fo fc) : ∀ m x n, x + m = 12 → m < n →
    wX_carryClean_10 post J (nI y) T B n (nI x) t p dx dy wd hg sh lv cx cy ow (ds_fl (12 * y + x) (ds_h cx cy fx fy fo fc W) cl) fx fy fo fc := by
  intro m
  induction m with
  | zero =>
    intro x n hx hn
    obtain ⟨n, rfl⟩ : ∃ n', n = n' + 1 := ⟨n - 1, by omega⟩
    have e : x = 12 := by omega
    subst e
    exact br_t (by decide) (nm_r (nI_1 y) k)
  | succ m ih =>
    intro x n hx hn
    obtain ⟨n, rfl⟩ : ∃ n', n = n' + 1 := ⟨n - 1, by omega⟩
    have hv : vp_in (nI (12 * y + x)) 120 := vp_in_nI (by omega) (by decide)
    have e := nI_clamp (n := 12 * y + x) (by omega)
    have ho := how (12 * y + x) (by omega)
    have eg : vp_nar .boolean (ds_k (nI x - cx (W (12 * y + x)) + fx (W (12 * y + x))) (nI y - cy (W (12 * y + x)) + fy (W (12 * y + x))) fo fc (W (12 * y + x))) = ds_h cx cy fx fy fo fc W (12 * y + x) := by
      unfold ds_h
      rw [show (12 * y + x) % 12 = x by omega, show (12 * y + x) / 12 = y by omega]
    refine br_f (nI_ge (b := 12) (by omega) (by decide)) (xl_pix ⟨hv, ?_⟩)
    rw [e, ho.1]
    exact xl_car ho.2 ⟨hv, nm_r (ds_fl_s eg) (nm_r (nI_1 x) (ih (x + 1) n (by omega) (by omega)))⟩
theorem xl_cc2 {post : SX → Prop} {W : Nat → Nat} (how : ∀ j, j < 120 → ow j = nI (W j) ∧ W j < 6) (k : post (T, B, t, p, dx, dy, wd, hg, sh, lv, cx, cy, ow, ds_fl 120 (ds_h cx cy fx fy fo fc W) cl, fx, fy, fo, fc)) : ∀ m y n, y + m = 10 → m < n →
    wX_carryClean_2 post T B n (nI y) t p dx dy wd hg sh lv cx cy ow (ds_fl (12 * y) (ds_h cx cy fx fy fo fc W) cl) fx fy fo fc := by
  intro m
  induction m with
  | zero =>
    intro y n hy hn
    obtain ⟨n, rfl⟩ : ∃ n', n = n' + 1 := ⟨n - 1, by omega⟩
    have e : y = 10 := by omega
    subst e
    exact br_t (by decide) k
  | succ m ih =>
    intro y n hy hn
    obtain ⟨n, rfl⟩ : ∃ n', n = n' + 1 := ⟨n - 1, by omega⟩
    exact br_f (nI_ge (b := 10) (by omega) (by decide)) ⟨13, xl_cc10 (by omega) how (ih (y + 1) n (by omega) (by omega)) 12 0 13 (by omega) (by omega)⟩
theorem xl_carry {post : SX → Prop} {W : Nat → Nat} (how : ∀ j, j < 120 → ow j = nI (W j) ∧ W j < 6) (k : post (T, B, t, p, dx, dy, wd, hg, sh, lv, cx, cy, ow, ds_fl 120 (ds_h cx cy fx fy fo fc W) cl, fx, fy, fo, fc)) : wpX_carryClean post (T, B, t, p, dx, dy, wd, hg, sh, lv, cx, cy, ow, cl, fx, fy, fo, fc) := by
  have h := xl_cc2 how k 10 0 11 (by omega) (by omega)
  rw [show 12 * 0 = 0 from rfl, ds_fl_0] at h
  exact ⟨11, h⟩
end
end
section
/-! X: settle as a whole -/
def ds_XC (t p dx dy wd hg sh lv cx cy ow : Nat → Int32) : Prop :=
  (∀ c, c < 6 → t c ≠ 0 → cx c = ds_cs dx p 5 c 0 ∧ cy c = ds_cs dy p 5 c 0) ∧ (∀ j, j < 120 → ow j = nI (ds_O t p dx dy wd hg sh lv (j % 12) (j / 12)))
def ds_NC (t0 p0 dx0 dy0 : Nat → Int32) (O0 : Nat → Nat → Nat) (p dx dy : Nat → Int32) (O : Nat → Nat → Nat) (cl : Nat → Int32) : Nat → Int32 := fun j =>
  vp_nar .boolean (if t0 (O (j % 12) (j / 12)) = 0 then 0 else
    ds_k (nI (j % 12) - ds_cs dx p 5 (O (j % 12) (j / 12)) 0 + ds_cs dx0 p0 5 (O (j % 12) (j / 12)) 0) (nI (j / 12) - ds_cs dy p 5 (O (j % 12) (j / 12)) 0 + ds_cs dy0 p0 5 (O (j % 12) (j / 12)) 0)
      (fun i => nI (O0 (i % 12) (i / 12))) (fun i => vp_nar .boolean (cl i)) (O (j % 12) (j / 12)))
theorem ds_fl_c {n : Nat} {g g' a : Nat → Int32} (h : ∀ j, j < n → g j = g' j) : ds_fl n g a = ds_fl n g' a := by
  funext j
  show (if j < n then g j else a j) = (if j < n then g' j else a j)
  by_cases l : j < n
  · rw [if_pos l, if_pos l]; exact h j l
  · rw [if_neg l, if_neg l]
section
variable {T B : Int32} {t p dx dy wd hg sh lv cx cy ow cl fx fy fo fc : Nat → Int32} {t0 p0 dx0 dy0 wd0 hg0 sh0 lv0 : Nat → Int32} {dp0 dp : Nat → Nat}
theorem ds_ncx {d0 d c : Nat → Int32} (H0 : ds_T t0 p0 dp0) (C0 : ∀ c', c' < 6 → t0 c' ≠ 0 → c c' = ds_cs d0 p0 5 c' 0) {w : Nat} (hw : w < 6) (h : t w ≠ 0) : ds_fl 6 (ds_nc t d p c) c w = ds_cs d p 5 w 0 := by
  rw [ds_fl_lt hw]
  by_cases z : w = 0
  · subst z
    have e : ds_nc t d p c 0 = c 0 := if_neg (fun q => q.1 rfl)
    rw [e, C0 0 (by omega) H0.2.1, ds_cs_0, ds_cs_0]
  · exact if_pos ⟨z, h⟩
theorem ds_hN (H0 : ds_T t0 p0 dp0) (C0 : ds_XC t0 p0 dx0 dy0 wd0 hg0 sh0 lv0 cx cy ow) (H : ds_T t p dp) : ∀ j, j < 120 →
    ds_h (ds_fl 6 (ds_nc t dx p cx) cx) (ds_fl 6 (ds_nc t dy p cy) cy) (ds_fl 6 cx fx) (ds_fl 6 cy fy) (ds_fl 120 ow fo) (ds_fl 120 (fun j => vp_nar .boolean (cl j)) fc) (fun j => ds_O t p dx dy wd hg sh lv (j % 12) (j / 12)) j
     = ds_NC t0 p0 dx0 dy0 (ds_O t0 p0 dx0 dy0 wd0 hg0 sh0 lv0) p dx dy (ds_O t p dx dy wd hg sh lv) cl j := by
  intro j hj
  have hO := ds_O_in (dx := dx) (dy := dy) (wd := wd) (hg := hg) (sh := sh) (lv := lv) (x := j % 12) (y := j / 12) H
  unfold ds_h ds_NC
  dsimp only
  generalize hw : ds_O t p dx dy wd hg sh lv (j % 12) (j / 12) = w at hO
  rw [ds_ncx H0 (fun c' h1 h2 => (C0.1 c' h1 h2).1) hO.1 hO.2, ds_ncx H0 (fun c' h1 h2 => (C0.1 c' h1 h2).2) hO.1 hO.2, ds_fl_lt hO.1, ds_fl_lt hO.1]
  by_cases z : t0 w = 0
  · rw [if_pos z, ds_k_0]
    intro i hi
    rw [ds_fl_lt hi, C0.2 i hi]
    have hI := ds_O_in (dx := dx0) (dy := dy0) (wd := wd0) (hg := hg0) (sh := sh0) (lv := lv0) (x := i % 12) (y := i / 12) H0
    intro q
    rw [nI_eq (by omega) (by omega)] at q
    rw [q] at hI
    exact hI.2 z
  · rw [if_neg z]
    have e := C0.1 w hO.1 z
    rw [← e.1, ← e.2]
    congr 1
    exact ds_k_c (fun i hi => ⟨by rw [ds_fl_lt hi, C0.2 i hi], by rw [ds_fl_lt hi]⟩)
theorem xl_settle {post : SX → Prop} (H0 : ds_T t0 p0 dp0) (C0 : ds_XC t0 p0 dx0 dy0 wd0 hg0 sh0 lv0 cx cy ow) (H : ds_T t p dp) (hp : ds_P p)
    (k : ∀ cx' cy' ow' fx' fy' fo' fc', ds_XC t p dx dy wd hg sh lv cx' cy' ow' → post (T, B, t, p, dx, dy, wd, hg, sh, lv, cx', cy', ow', ds_fl 120 (ds_NC t0 p0 dx0 dy0 (ds_O t0 p0 dx0 dy0 wd0 hg0 sh0 lv0) p dx dy (ds_O t p dx dy wd hg sh lv) cl) cl, fx', fy', fo', fc')) : wpX_settle post (T, B, t, p, dx, dy, wd, hg, sh, lv, cx, cy, ow, cl, fx, fy, fo, fc) := by
  have hcx : ∀ c, c < 6 → t c ≠ 0 → ds_fl 6 (ds_nc t dx p cx) cx c = ds_cs dx p 5 c 0 ∧ ds_fl 6 (ds_nc t dy p cy) cy c = ds_cs dy p 5 c 0 :=
    fun c hc h => ⟨ds_ncx H0 (fun c' h1 h2 => (C0.1 c' h1 h2).1) hc h, ds_ncx H0 (fun c' h1 h2 => (C0.1 c' h1 h2).2) hc h⟩
  have how : ∀ j, j < 120 → ds_fl 120 (ds_g t p dx dy wd hg sh lv) ow j = nI (ds_O t p dx dy wd hg sh lv (j % 12) (j / 12)) ∧ ds_O t p dx dy wd hg sh lv (j % 12) (j / 12) < 6 :=
    fun j hj => ⟨ds_fl_lt hj, (ds_O_in H).1⟩
  have k' := k _ _ _ (ds_fl 6 cx fx) (ds_fl 6 cy fy) (ds_fl 120 ow fo) (ds_fl 120 (fun j => vp_nar .boolean (cl j)) fc) ⟨hcx, fun j hj => (how j hj).1⟩
  rw [← ds_fl_c (ds_hN (fx := fx) (fy := fy) (fo := fo) (fc := fc) (cl := cl) (wd := wd) (hg := hg) (sh := sh) (lv := lv) H0 C0 H)] at k'
  unfold wpX_settle
  refine xl_keep ?_
  refine xl_places hp ?_
  refine xl_assign hcx ?_
  refine xl_carry (W := fun j => ds_O t p dx dy wd hg sh lv (j % 12) (j / 12)) how ?_
  exact k'
end
end
section
/-! Y: what only reads -/
theorem ds_en_lt {b : Nat} (h : b ≠ 0) (hb : b < 6) : ¬ ds_en b < 0 := by rw [ds_en_n h]; exact nI_pos (by omega)
theorem ds_dv {i : Nat} (h : i < 120) : nI i / 12 = nI (i / 12) := pk_div (d := 12) (by omega) (by omega) (by omega)
theorem ds_rm {i : Nat} (h : i < 120) : nI i - nI i / 12 * 12 = nI (i % 12) := pk_rem (d := 12) (by omega) (by omega) (by omega)
/-- what Y's reading rests on -/
def ds_V (t p dx dy wd hg sh we hi so : Nat → Int32) (dp : Nat → Nat) : Prop :=
  ds_T t p dp ∧ ds_P p ∧ ds_B dx ∧ ds_B dy ∧ (∀ c, c < 6 → (0 ≤ (wd c).toInt ∧ (wd c).toInt ≤ 12) ∧ (0 ≤ (hg c).toInt ∧ (hg c).toInt ≤ 12)) ∧ (∀ c, 1 ≤ c → c < 6 → we c = wd c ∧ hi c = hg c ∧ so c = sh c) ∧ (∀ j, t j = 0 ∨ t j = 1)
section
variable {T B : Int32} {t p dx dy we hi so lv cl wt wx wy wo wc : Nat → Int32}
theorem yl_miss_n {post : Int32 → Prop} {a : Nat} (ha : a < 6) (h : t a ≠ 0) (k : post 0) : wpY_missing post (T, B, t, p, dx, dy, we, hi, so, lv, cl, wt, wx, wy, wo, wc) (nI a) :=
  br_f (nI_pos (by omega)) (br_f (nI_nlt (a := 5) (by omega) (by decide)) ⟨vp_in_nI ha (by decide), by rw [nI_clamp (by omega)]; exact br_f h k⟩)
theorem yl_miss_y {post : Int32 → Prop} {w : Int32} (h : ¬ ∃ a : Nat, a < 6 ∧ w = nI a ∧ t a ≠ 0) (k : post 1) : wpY_missing post (T, B, t, p, dx, dy, we, hi, so, lv, cl, wt, wx, wy, wo, wc) w := by
  by_cases z : w < 0
  · exact br_t z k
  · refine br_f z (br_c (fun _ => k) (fun y => ?_))
    obtain ⟨a, ha, rfl⟩ := nI_of z
    have a6 : a < 6 := by
      have e := (not_congr (nI_ltI (a := 5) (b := a) (by decide) ha)).mp y
      omega
    have z : t a = 0 := Classical.byContradiction fun z => h ⟨a, a6, rfl, z⟩
    exact ⟨vp_in_nI a6 (by decide), by rw [nI_clamp (by omega)]; exact br_t z k⟩
theorem yl_cx7 {post : Int32 → Prop} (hp : ds_P p) : ∀ m a s n (z : Int32), a < 6 → s + m = 6 → m < n → post (ds_cs dx p m a z) → wY_cornerX_7 post T B t p dx dy we hi so lv cl wt wx wy wo wc n z (nI a) (nI s) := by
  intro m
  induction m with
  | zero =>
    intro a s n z ha hs hn k
    obtain ⟨n, rfl⟩ : ∃ n', n = n' + 1 := ⟨n - 1, by omega⟩
    have e : s = 6 := by omega
    subst e
    exact br_t (by decide) k
  | succ m ih =>
    intro a s n z ha hs hn k
    obtain ⟨n, rfl⟩ : ∃ n', n = n' + 1 := ⟨n - 1, by omega⟩
    have hv : vp_in (nI a) 6 := vp_in_nI (by omega) (by decide)
    have e := nI_clamp (n := a) (by omega)
    by_cases q : a = 0
    · subst q
      rw [ds_cs_0] at k
      exact br_f (nI_ge (b := 6) (by omega) (by decide)) (br_t (by decide) k)
    · rw [ds_cs_n q] at k
      exact br_f (nI_ge (b := 6) (by omega) (by decide)) (br_f (nI_nle (by omega) (by omega)) ⟨hv, nm_r (by rw [e]) ⟨hv, nm_r (by rw [e]; exact (hp a ha).2) (nm_r (nI_1 s) (ih (ds_up p a) (s + 1) n _ (hp a ha).1 (by omega) (by omega) k))⟩⟩)
theorem yl_cornerX {post : Int32 → Prop} (hp : ds_P p) {a : Nat} (ha : a < 6) (k : post (ds_cs dx p 6 a 0)) : wpY_cornerX post (T, B, t, p, dx, dy, we, hi, so, lv, cl, wt, wx, wy, wo, wc) (nI a) :=
  ⟨7, yl_cx7 hp 6 a 0 7 0 ha (by omega) (by omega) k⟩
theorem yl_cy7 {post : Int32 → Prop} (hp : ds_P p) : ∀ m a s n (z : Int32), a < 6 → s + m = 6 → m < n → post (ds_cs dy p m a z) → wY_cornerY_7 post T B t p dx dy we hi so lv cl wt wx wy wo wc n z (nI a) (nI s) := by
  intro m
  induction m with
  | zero =>
    intro a s n z ha hs hn k
    obtain ⟨n, rfl⟩ : ∃ n', n = n' + 1 := ⟨n - 1, by omega⟩
    have e : s = 6 := by omega
    subst e
    exact br_t (by decide) k
  | succ m ih =>
    intro a s n z ha hs hn k
    obtain ⟨n, rfl⟩ : ∃ n', n = n' + 1 := ⟨n - 1, by omega⟩
    have hv : vp_in (nI a) 6 := vp_in_nI (by omega) (by decide)
    have e := nI_clamp (n := a) (by omega)
    by_cases q : a = 0
    · subst q
      rw [ds_cs_0] at k
      exact br_f (nI_ge (b := 6) (by omega) (by decide)) (br_t (by decide) k)
    · rw [ds_cs_n q] at k
      exact br_f (nI_ge (b := 6) (by omega) (by decide)) (br_f (nI_nle (by omega) (by omega)) ⟨hv, nm_r (by rw [e]) ⟨hv, nm_r (by rw [e]; exact (hp a ha).2) (nm_r (nI_1 s) (ih (ds_up p a) (s + 1) n _ (hp a ha).1 (by omega) (by omega) k))⟩⟩)
theorem yl_cornerY {post : Int32 → Prop} (hp : ds_P p) {a : Nat} (ha : a < 6) (k : post (ds_cs dy p 6 a 0)) : wpY_cornerY post (T, B, t, p, dx, dy, we, hi, so, lv, cl, wt, wx, wy, wo, wc) (nI a) :=
  ⟨7, yl_cy7 hp 6 a 0 7 0 ha (by omega) (by omega) k⟩
theorem yl_cov {post : Int32 → Prop} {wd hg sh : Nat → Int32} {dp : Nat → Nat} {c x y : Nat} (V : ds_V t p dx dy wd hg sh we hi so dp) (c1 : 1 ≤ c) (hc : c < 6) (ht : t c ≠ 0) (hx : x < 12) (hy : y < 10)
    (k1 : ds_C p dx dy wd hg sh x y c = true → post 1) (k0 : ds_C p dx dy wd hg sh x y c = false → post 0) : wpY_covers post (T, B, t, p, dx, dy, we, hi, so, lv, cl, wt, wx, wy, wo, wc) (nI c) (nI x) (nI y) := by
  obtain ⟨H, hp, hdx, hdy, hwh, hwe, -⟩ := V
  have hv : vp_in (nI c) 6 := vp_in_nI hc (by decide)
  have e := nI_clamp (n := c) (by omega)
  have hw := hwe c c1 hc
  have hb := hwh c hc
  have bx := ds_cs_5 hdx hp hc
  have b_y := ds_cs_5 hdy hp hc
  have ix := nI_toInt (n := x) (by omega)
  have iy := nI_toInt (n := y) (by omega)
  have qx := ds_cov (x := nI x) (c := ds_cs dx p 5 c 0) (w := wd c) (by omega) (by omega) (by omega) (by omega) hb.1.1 (by omega)
  have qy := ds_cov (x := nI y) (c := ds_cs dy p 5 c 0) (w := hg c) (by omega) (by omega) (by omega) (by omega) hb.2.1 (by omega)
  have no : ¬ (sh c ≠ 0 ∧ 0 ≤ nI x - ds_cs dx p 5 c 0 ∧ nI x - ds_cs dx p 5 c 0 < wd c ∧ 0 ≤ nI y - ds_cs dy p 5 c 0 ∧ nI y - ds_cs dy p 5 c 0 < hg c) → post 0 := fun z => k0 (decide_eq_false z)
  unfold wpY_covers
  refine yl_cornerX hp hc ?_
  refine yl_cornerY hp hc ?_
  rw [e, ds_cs_6 H hp hc ht, ds_cs_6 H hp hc ht, hw.1, hw.2.1, hw.2.2]
  refine ⟨hv, br_c (fun z => no (fun q => q.1 z)) (fun z1 => br_c (fun z => no (fun q => Int32.not_le.mpr z (qx.1.mp q.2.1))) (fun z2 => ⟨hv, br_c (fun z => no (fun q => Int32.not_le.mpr (qx.2.mp q.2.2.1) z)) (fun z3 => br_c (fun z => no (fun q => Int32.not_le.mpr z (qy.1.mp q.2.2.2.1))) (fun z4 => ⟨hv, br_c (fun z => no (fun q => Int32.not_le.mpr (qy.2.mp q.2.2.2.2) z)) (fun z5 => ?_)⟩))⟩))⟩
  exact k1 (decide_eq_true ⟨z1, qx.1.mpr (Int32.not_lt.mp z2), qx.2.mpr (Int32.not_le.mp z3), qy.1.mpr (Int32.not_lt.mp z4), qy.2.mpr (Int32.not_le.mp z5)⟩)
theorem yl_tm {post : Int32 → Prop} {wd hg sh : Nat → Int32} {dp : Nat → Nat} {x y a : Nat} (V : ds_V t p dx dy wd hg sh we hi so dp) (hx : x < 12) (hy : y < 10) : ∀ (m c b n : Nat), 1 ≤ c → c + m = 6 → b < 6 → m < n →
    post (ds_en (ds_tm (ds_q t p dx dy wd hg sh x y a) lv m c b)) → wY_topmost_6 post (nI a) (nI x) (nI y) T B t p dx dy we hi so lv cl wt wx wy wo wc n (ds_en b) (nI c) := by
  intro m
  induction m with
  | zero =>
    intro c b n h1 hc hb hn k
    obtain ⟨n, rfl⟩ : ∃ n', n = n' + 1 := ⟨n - 1, by omega⟩
    have e : c = 6 := by omega
    subst e
    exact br_t (by decide) k
  | succ m ih =>
    intro c b n h1 hc hb hn k
    obtain ⟨n, rfl⟩ : ∃ n', n = n' + 1 := ⟨n - 1, by omega⟩
    have hv : vp_in (nI c) 6 := vp_in_nI (by omega) (by decide)
    have e := nI_clamp (n := c) (by omega)
    have no : ¬ (ds_q t p dx dy wd hg sh x y a c = true ∧ (b = 0 ∨ lv b < lv c)) → wY_topmost_6 post (nI a) (nI x) (nI y) T B t p dx dy we hi so lv cl wt wx wy wo wc n (ds_en b) (nI (c + 1)) := by
      intro z
      rw [ds_tm_n z] at k
      exact ih (c + 1) b n (by omega) (by omega) hb (by omega) k
    have ye : (ds_q t p dx dy wd hg sh x y a c = true ∧ (b = 0 ∨ lv b < lv c)) → wY_topmost_6 post (nI a) (nI x) (nI y) T B t p dx dy we hi so lv cl wt wx wy wo wc n (nI c) (nI (c + 1)) := by
      intro z
      rw [ds_tm_y z] at k
      rw [← ds_en_n (show c ≠ 0 by omega)]
      exact ih (c + 1) c n (by omega) (by omega) (by omega) (by omega) k
    refine br_f (nI_ge (b := 6) (by omega) (by decide)) ⟨hv, ?_⟩
    rw [e]
    refine br_c (fun z => nm_r (nI_1 c) (no (fun q => (of_decide_eq_true q.1).1 z))) (fun z1 => ⟨hv, ?_⟩)
    refine br_c (fun z2 => ?_) (fun z => nm_r (nI_1 c) (no (fun q => z (of_decide_eq_true q.1).2.1)))
    refine yl_cov V h1 (by omega) z1 hx hy (fun cv => br_f (by decide) ?_) (fun cv => br_t rfl (nm_r (nI_1 c) (no (fun q => ?_))))
    · have q1 : ds_q t p dx dy wd hg sh x y a c = true := decide_eq_true ⟨z1, z2, cv⟩
      by_cases b0 : b = 0
      · subst b0
        exact br_t (by decide) (nm_r (nI_1 c) (ye ⟨q1, Or.inl rfl⟩))
      · refine br_f (ds_en_lt b0 hb) ⟨hv, ?_⟩
        rw [ds_en_n b0, nI_clamp (n := b) (by omega)]
        refine ⟨vp_in_nI hb (by decide), br_c (fun z => ?_) (fun z => ?_)⟩
        · have := no (fun q => q.2.elim b0 (fun l => Int32.not_le.mpr l z))
          rw [ds_en_n b0] at this
          exact nm_r (nI_1 c) this
        · exact nm_r (nI_1 c) (ye ⟨q1, Or.inr (Int32.not_le.mp z)⟩)
    · have := (of_decide_eq_true q.1).2.2
      rw [cv] at this
      exact absurd this (by decide)
theorem yl_top {post : Int32 → Prop} {wd hg sh : Nat → Int32} {dp : Nat → Nat} {x y a : Nat} (V : ds_V t p dx dy wd hg sh we hi so dp) (hx : x < 12) (hy : y < 10)
    (k : post (ds_en (ds_nx t p dx dy wd hg sh lv x y a))) : wpY_topmost post (T, B, t, p, dx, dy, we, hi, so, lv, cl, wt, wx, wy, wo, wc) (nI a) (nI x) (nI y) :=
  ⟨6, yl_tm V hx hy 5 1 0 6 (by omega) (by omega) (by omega) (by omega) k⟩
theorem yl_ow {post : Int32 → Prop} {wd hg sh : Nat → Int32} {dp : Nat → Nat} {x y : Nat} (V : ds_V t p dx dy wd hg sh we hi so dp) (hx : x < 12) (hy : y < 10) : ∀ (m a s n : Nat), s + m = 6 → m < n →
    post (nI (ds_ow (ds_nx t p dx dy wd hg sh lv x y) m a)) → wY_owner_27 post (nI x) (nI y) T B t p dx dy we hi so lv cl wt wx wy wo wc n (nI a) (nI s) := by
  intro m
  induction m with
  | zero =>
    intro a s n hs hn k
    obtain ⟨n, rfl⟩ : ∃ n', n = n' + 1 := ⟨n - 1, by omega⟩
    have e : s = 6 := by omega
    subst e
    exact br_t (by decide) k
  | succ m ih =>
    intro a s n hs hn k
    obtain ⟨n, rfl⟩ : ∃ n', n = n' + 1 := ⟨n - 1, by omega⟩
    refine br_f (nI_ge (b := 6) (by omega) (by decide)) (yl_top V hx hy ?_)
    by_cases z : ds_nx t p dx dy wd hg sh lv x y a = 0
    · rw [ds_ow_y z] at k
      rw [z]
      exact br_f (by decide) k
    · rw [ds_ow_n z] at k
      have b6 : ds_nx t p dx dy wd hg sh lv x y a < 6 := by
        cases ds_nx_in (t := t) (p := p) (dx := dx) (dy := dy) (wd := wd) (hg := hg) (sh := sh) (lv := lv) (x := x) (y := y) (a := a) with
        | inl e => exact absurd e z
        | inr e => exact e.2.1
      refine br_t (Int32.not_lt.mp (ds_en_lt z b6)) (nm_r (nI_1 s) ?_)
      rw [ds_en_n z]
      exact ih _ (s + 1) n (by omega) (by omega) k
theorem yl_owner {post : Int32 → Prop} {wd hg sh : Nat → Int32} {dp : Nat → Nat} {x y : Nat} (V : ds_V t p dx dy wd hg sh we hi so dp) (hx : x < 12) (hy : y < 10)
    (k : post (nI (ds_O t p dx dy wd hg sh lv x y))) : wpY_owner post (T, B, t, p, dx, dy, we, hi, so, lv, cl, wt, wx, wy, wo, wc) (nI x) (nI y) := by
  rw [← ds_O_6 V.1] at k
  exact br_f (nI_pos (by omega)) (br_f (nI_nlt (a := 11) (by omega) (by decide)) (br_f (nI_pos (by omega)) (br_t (nI_le (b := 9) (by omega) (by decide)) ⟨7, yl_ow V hx hy 6 0 0 7 (by omega) (by omega) k⟩)))
theorem yl_owner_n {post : Int32 → Prop} {A D : Int32} (h : ¬ (0 ≤ A ∧ A < 12 ∧ 0 ≤ D ∧ D < 10)) (k : post (-1)) : wpY_owner post (T, B, t, p, dx, dy, we, hi, so, lv, cl, wt, wx, wy, wo, wc) A D := by
  refine br_c (fun _ => k) (fun z1 => br_c (fun _ => k) (fun z2 => br_c (fun _ => k) (fun z3 => br_c (fun z4 => ?_) (fun _ => k))))
  obtain ⟨a, ha, rfl⟩ := nI_of z1
  obtain ⟨b, hb, rfl⟩ := nI_of z3
  have a1 := (not_congr (nI_ltI (a := 11) (b := a) (by decide) ha)).mp z2
  have b1 := (nI_leI (a := b) (b := 9) hb (by decide)).mp z4
  exact absurd ⟨nI_pos' ha, nI_lt (b := 12) (by omega) (by decide), nI_pos' hb, nI_lt (b := 10) (by omega) (by decide)⟩ h
end
end
section
/-! Y: remember, kept, settle -/
def ds_YC (t p dx dy : Nat → Int32) (O0 : Nat → Nat → Nat) (cl wt wx wy wo wc : Nat → Int32) : Prop :=
  (∀ c, c < 6 → (wt c = 0 ↔ t c = 0) ∧ wx c = ds_cs dx p 6 c 0 ∧ wy c = ds_cs dy p 6 c 0) ∧ (∀ j, j < 120 → wo j = nI (O0 (j % 12) (j / 12)) ∧ wc j = vp_nar .boolean (cl j))
section
variable {T B : Int32} {t p dx dy we hi so lv cl wt wx wy wo wc : Nat → Int32} {wd hg sh : Nat → Int32} {dp : Nat → Nat}
theorem yl_re50 {post : SY → Prop} (V : ds_V t p dx dy wd hg sh we hi so dp) (k : post (T, B, t, p, dx, dy, we, hi, so, lv, cl, wt, wx, wy, ds_fl 120 (ds_g t p dx dy wd hg sh lv) wo, ds_fl 120 (fun j => vp_nar .boolean (cl j)) wc)) : ∀ m i n, i + m = 120 → m < n →
    wY_remember_50 post T B n (nI i) t p dx dy we hi so lv cl wt wx wy (ds_fl i (ds_g t p dx dy wd hg sh lv) wo) (ds_fl i (fun j => vp_nar .boolean (cl j)) wc) := by
  intro m
  induction m with
  | zero =>
    intro i n h_i hn
    obtain ⟨n, rfl⟩ : ∃ n', n = n' + 1 := ⟨n - 1, by omega⟩
    have e : i = 120 := by omega
    subst e
    exact br_t (by decide) k
  | succ m ih =>
    intro i n h_i hn
    obtain ⟨n, rfl⟩ : ∃ n', n = n' + 1 := ⟨n - 1, by omega⟩
    have hv : vp_in (nI i) 120 := vp_in_nI (by omega) (by decide)
    have e := nI_clamp (n := i) (by omega)
    refine br_f (nI_ge (b := 120) (by omega) (by decide)) ⟨by decide, by decide, ?_⟩
    rw [ds_rm (by omega), ds_dv (by omega)]
    exact yl_owner V (by omega) (by omega) ⟨hv, nm_r (by rw [e]; exact ds_fl_s rfl) ⟨hv, hv, nm_r (by rw [e]; exact ds_fl_s rfl) (nm_r (nI_1 i) (ih (i + 1) n (by omega) (by omega)))⟩⟩
theorem yl_re2 {post : SY → Prop} (V : ds_V t p dx dy wd hg sh we hi so dp) (k : post (T, B, t, p, dx, dy, we, hi, so, lv, cl, ds_fl 6 (fun j => vp_nar .boolean (t j)) wt, ds_fl 6 (fun j => ds_cs dx p 6 j 0) wx, ds_fl 6 (fun j => ds_cs dy p 6 j 0) wy, ds_fl 120 (ds_g t p dx dy wd hg sh lv) wo, ds_fl 120 (fun j => vp_nar .boolean (cl j)) wc)) : ∀ m i n, i + m = 6 → m < n →
    wY_remember_2 post T B n (nI i) t p dx dy we hi so lv cl (ds_fl i (fun j => vp_nar .boolean (t j)) wt) (ds_fl i (fun j => ds_cs dx p 6 j 0) wx) (ds_fl i (fun j => ds_cs dy p 6 j 0) wy) wo wc := by
  intro m
  induction m with
  | zero =>
    intro i n h_i hn
    obtain ⟨n, rfl⟩ : ∃ n', n = n' + 1 := ⟨n - 1, by omega⟩
    have e : i = 6 := by omega
    subst e
    have h := yl_re50 (wt := ds_fl 6 (fun j => vp_nar .boolean (t j)) wt) (wx := ds_fl 6 (fun j => ds_cs dx p 6 j 0) wx) (wy := ds_fl 6 (fun j => ds_cs dy p 6 j 0) wy) V k 120 0 121 (by omega) (by omega)
    rw [ds_fl_0, ds_fl_0] at h
    exact br_t (by decide) ⟨121, h⟩
  | succ m ih =>
    intro i n h_i hn
    obtain ⟨n, rfl⟩ : ∃ n', n = n' + 1 := ⟨n - 1, by omega⟩
    have hv : vp_in (nI i) 6 := vp_in_nI (by omega) (by decide)
    have e := nI_clamp (n := i) (by omega)
    exact br_f (nI_ge (b := 6) (by omega) (by decide)) ⟨hv, hv, nm_r (by rw [e]; exact ds_fl_s rfl) (yl_cornerX V.2.1 (by omega) ⟨hv, nm_r (by rw [e]; exact ds_fl_s rfl) (yl_cornerY V.2.1 (by omega) ⟨hv, nm_r (by rw [e]; exact ds_fl_s rfl) (nm_r (nI_1 i) (ih (i + 1) n (by omega) (by omega)))⟩)⟩)⟩
theorem yl_rem {post : SY → Prop} (V : ds_V t p dx dy wd hg sh we hi so dp) (k : ∀ wt' wx' wy' wo' wc', ds_YC t p dx dy (ds_O t p dx dy wd hg sh lv) cl wt' wx' wy' wo' wc' → post (T, B, t, p, dx, dy, we, hi, so, lv, cl, wt', wx', wy', wo', wc')) : wpY_remember post (T, B, t, p, dx, dy, we, hi, so, lv, cl, wt, wx, wy, wo, wc) := by
  have h := yl_re2 (wt := wt) (wx := wx) (wy := wy) (wo := wo) (wc := wc) V (k _ _ _ _ _ ⟨fun c hc => ⟨by rw [ds_fl_lt hc, ds_nar (V.2.2.2.2.2.2 c)], ds_fl_lt hc, ds_fl_lt hc⟩, fun j hj => ⟨ds_fl_lt hj, ds_fl_lt hj⟩⟩) 6 0 7 (by omega) (by omega)
  rw [ds_fl_0, ds_fl_0, ds_fl_0] at h
  exact ⟨7, h⟩
theorem yl_kept {post : Int32 → Prop} {w x y : Nat} (hp : ds_P p) (hw : w < 6) (k : post (if wt w = 0 then 0 else ds_k (nI x - ds_cs dx p 6 w 0 + wx w) (nI y - ds_cs dy p 6 w 0 + wy w) wo wc w)) : wpY_kept post (T, B, t, p, dx, dy, we, hi, so, lv, cl, wt, wx, wy, wo, wc) (nI w) (nI x) (nI y) := by
  have hv : vp_in (nI w) 6 := vp_in_nI hw (by decide)
  have e := nI_clamp (n := w) (by omega)
  unfold wpY_kept
  refine yl_cornerX hp hw ⟨hv, fun x4 e4 => ?_⟩
  refine yl_cornerY hp hw ⟨hv, fun x5 e5 => ⟨hv, ?_⟩⟩
  rw [e] at e4 e5
  rw [← e4, ← e5] at k
  rw [e]
  refine br_c (fun z => ?_) (fun z0 => ?_)
  · rw [if_pos z] at k; exact k
  rw [if_neg z0] at k
  have no : ¬ (0 ≤ x4 ∧ x4 < 12 ∧ 0 ≤ x5 ∧ x5 < 10) → post 0 := by
    intro z
    unfold ds_k at k
    rw [if_neg (fun q => z ⟨q.1, q.2.1, q.2.2.1, q.2.2.2.1⟩)] at k
    exact k
  refine br_c (fun z => no (fun q => Int32.not_lt.mpr q.1 z)) (fun z1 => ?_)
  obtain ⟨a, ha, rfl⟩ := nI_of z1
  refine br_c (fun z => no (fun q => ?_)) (fun z2 => ?_)
  · have h1 := (nI_ltI (a := 11) (b := a) (by decide) ha).mp z
    have h2 := (nI_ltI (a := a) (b := 12) ha (by decide)).mp q.2.1
    omega
  have h2 := (not_congr (nI_ltI (a := 11) (b := a) (by decide) ha)).mp z2
  refine br_c (fun z => no (fun q => Int32.not_lt.mpr q.2.2.1 z)) (fun z3 => ?_)
  obtain ⟨b, hb, rfl⟩ := nI_of z3
  refine br_c (fun z4 => ?_) (fun z => no (fun q => ?_))
  · have h4 := (nI_leI (a := b) (b := 9) hb (by decide)).mp z4
    have ei : (12 : Int32) * nI b + nI a = nI (12 * b + a) := by
      rw [show (12 : Int32) = nI 12 from rfl, pk_mul, nI_add]
    have hq : vp_in (nI (12 * b + a)) 120 := vp_in_nI (by omega) (by decide)
    rw [ei]
    refine ⟨hq, ?_⟩
    rw [nI_clamp (n := 12 * b + a) (by omega)]
    unfold ds_k at k
    rw [nI_clamp (n := a) (by omega), nI_clamp (n := b) (by omega)] at k
    have z : 0 ≤ nI a ∧ nI a < 12 ∧ 0 ≤ nI b ∧ nI b < 10 := ⟨nI_pos' ha, nI_lt (b := 12) (by omega) (by decide), nI_pos' hb, nI_lt (b := 10) (by omega) (by decide)⟩
    refine br_c (fun o => ⟨hq, br_c (fun c => ?_) (fun c => ?_)⟩) (fun o => ?_)
    · rw [if_neg (fun q => q.2.2.2.2.2 c)] at k; exact k
    · rw [if_pos ⟨z.1, z.2.1, z.2.2.1, z.2.2.2, o, c⟩] at k; exact k
    · rw [if_neg (fun q => o q.2.2.2.2.1)] at k; exact k
  · have h1 := (not_congr (nI_leI (a := b) (b := 9) hb (by decide))).mp z
    have h2 := (nI_ltI (a := b) (b := 10) hb (by decide)).mp q.2.2.2
    omega
theorem ds_kN {t0 p0 dx0 dy0 : Nat → Int32} {dp0 : Nat → Nat} {O0 : Nat → Nat → Nat} {x y w : Nat} (H : ds_T t p dp) (hp : ds_P p) (H0 : ds_T t0 p0 dp0) (hp0 : ds_P p0) (Y : ds_YC t0 p0 dx0 dy0 O0 cl wt wx wy wo wc) (hw : w < 6) (ht : t w ≠ 0) :
    (if wt w = 0 then 0 else ds_k (nI x - ds_cs dx p 6 w 0 + wx w) (nI y - ds_cs dy p 6 w 0 + wy w) wo wc w)
     = (if t0 w = 0 then 0 else ds_k (nI x - ds_cs dx p 5 w 0 + ds_cs dx0 p0 5 w 0) (nI y - ds_cs dy p 5 w 0 + ds_cs dy0 p0 5 w 0) (fun i => nI (O0 (i % 12) (i / 12))) (fun i => vp_nar .boolean (cl i)) w) := by
  have q := Y.1 w hw
  by_cases z : t0 w = 0
  · rw [if_pos z, if_pos (q.1.mpr z)]
  · rw [if_neg z, if_neg (fun y => z (q.1.mp y)), q.2.1, q.2.2, ds_cs_6 H hp hw ht, ds_cs_6 H hp hw ht, ds_cs_6 H0 hp0 hw z, ds_cs_6 H0 hp0 hw z]
    exact ds_k_c Y.2
theorem yl_se2 {post : SY → Prop} {t0 p0 dx0 dy0 wt wx wy wo wc cl0 : Nat → Int32} {dp0 : Nat → Nat} {O0 : Nat → Nat → Nat} (V : ds_V t p dx dy wd hg sh we hi so dp) (H0 : ds_T t0 p0 dp0) (hp0 : ds_P p0) (Y : ds_YC t0 p0 dx0 dy0 O0 cl0 wt wx wy wo wc)
    (k : post (T, B, t, p, dx, dy, we, hi, so, lv, ds_fl 120 (ds_NC t0 p0 dx0 dy0 O0 p dx dy (ds_O t p dx dy wd hg sh lv) cl0) cl, wt, wx, wy, wo, wc)) : ∀ m i n, i + m = 120 → m < n →
    wY_settle_2 post T B n (nI i) t p dx dy we hi so lv (ds_fl i (ds_NC t0 p0 dx0 dy0 O0 p dx dy (ds_O t p dx dy wd hg sh lv) cl0) cl) wt wx wy wo wc := by
  intro m
  induction m with
  | zero =>
    intro i n h_i hn
    obtain ⟨n, rfl⟩ : ∃ n', n = n' + 1 := ⟨n - 1, by omega⟩
    have e : i = 120 := by omega
    subst e
    exact br_t (by decide) k
  | succ m ih =>
    intro i n h_i hn
    obtain ⟨n, rfl⟩ : ∃ n', n = n' + 1 := ⟨n - 1, by omega⟩
    have hv : vp_in (nI i) 120 := vp_in_nI (by omega) (by decide)
    have e := nI_clamp (n := i) (by omega)
    have hO := ds_O_in (dx := dx) (dy := dy) (wd := wd) (hg := hg) (sh := sh) (lv := lv) (x := i % 12) (y := i / 12) V.1
    refine br_f (nI_ge (b := 120) (by omega) (by decide)) ⟨by decide, by decide, ?_⟩
    rw [ds_rm (by omega), ds_dv (by omega)]
    refine yl_owner V (by omega) (by omega) ⟨by decide, by decide, ?_⟩
    refine yl_kept V.2.1 hO.1 ⟨hv, nm_r ?_ (nm_r (nI_1 i) (ih (i + 1) n (by omega) (by omega)))⟩
    rw [e]
    exact ds_fl_s (congrArg (vp_nar .boolean) (ds_kN V.1 V.2.1 H0 hp0 Y hO.1 hO.2))
theorem yl_settle {post : SY → Prop} {t0 p0 dx0 dy0 : Nat → Int32} {dp0 : Nat → Nat} {O0 : Nat → Nat → Nat} (V : ds_V t p dx dy wd hg sh we hi so dp) (H0 : ds_T t0 p0 dp0) (hp0 : ds_P p0) (Y : ds_YC t0 p0 dx0 dy0 O0 cl wt wx wy wo wc)
    (k : post (T, B, t, p, dx, dy, we, hi, so, lv, ds_fl 120 (ds_NC t0 p0 dx0 dy0 O0 p dx dy (ds_O t p dx dy wd hg sh lv) cl) cl, wt, wx, wy, wo, wc)) : wpY_settle post (T, B, t, p, dx, dy, we, hi, so, lv, cl, wt, wx, wy, wo, wc) := by
  have h := yl_se2 V H0 hp0 Y k 120 0 121 (by omega) (by omega)
  rw [ds_fl_0] at h
  exact ⟨121, h⟩
end
end
section
/-! the relation; owner, dirty, visible, paint -/
def i_Rel (k : Nat) (u : SX) (v : SY) : Prop :=
  ∃ (T B : Int32) (t p dx dy wd hg sh lv cx cy ow cl fx fy fo fc we hi so wt wx wy wo wc : Nat → Int32) (dp : Nat → Nat),
    u = (T, B, t, p, dx, dy, wd, hg, sh, lv, cx, cy, ow, cl, fx, fy, fo, fc) ∧ v = (T, B, t, p, dx, dy, we, hi, so, lv, cl, wt, wx, wy, wo, wc) ∧ ds_V t p dx dy wd hg sh we hi so dp ∧ ds_XC t p dx dy wd hg sh lv cx cy ow
theorem i_up {k : Nat} {u : SX} {v : SY} (h : i_Rel k u v) : i_Rel (k + 5) u v := h
section
variable {T B : Int32} {t p dx dy wd hg sh lv cx cy ow cl fx fy fo fc : Nat → Int32} {we hi so wt wx wy wo wc : Nat → Int32} {dp : Nat → Nat}
theorem ds_mk {k : Nat} (V : ds_V t p dx dy wd hg sh we hi so dp) (C : ds_XC t p dx dy wd hg sh lv cx cy ow) : i_Rel k (T, B, t, p, dx, dy, wd, hg, sh, lv, cx, cy, ow, cl, fx, fy, fo, fc) (T, B, t, p, dx, dy, we, hi, so, lv, cl, wt, wx, wy, wo, wc) :=
  ⟨T, B, t, p, dx, dy, wd, hg, sh, lv, cx, cy, ow, cl, fx, fy, fo, fc, we, hi, so, wt, wx, wy, wo, wc, dp, rfl, rfl, V, C⟩
/-! visible -/
theorem xl_vis {post : Int32 → Prop} {w : Int32} (k : post (nI (ds_ct (fun j => decide (ow j = w)) 120))) : ∀ m i n, i + m = 120 → m < n → wX_visible_14 post w T B t p dx dy wd hg sh lv cx cy ow cl fx fy fo fc n (nI (ds_ct (fun j => decide (ow j = w)) i)) (nI i) := by
  intro m
  induction m with
  | zero =>
    intro i n h_i hn
    obtain ⟨n, rfl⟩ : ∃ n', n = n' + 1 := ⟨n - 1, by omega⟩
    have e : i = 120 := by omega
    subst e
    exact br_t (by decide) k
  | succ m ih =>
    intro i n h_i hn
    obtain ⟨n, rfl⟩ : ∃ n', n = n' + 1 := ⟨n - 1, by omega⟩
    have hv : vp_in (nI i) 120 := vp_in_nI (by omega) (by decide)
    have e := nI_clamp (n := i) (by omega)
    have ih' := ih (i + 1) n (by omega) (by omega)
    refine br_f (nI_ge (b := 120) (by omega) (by decide)) ⟨hv, ?_⟩
    rw [e]
    refine br_c (fun z => ?_) (fun z => ?_)
    · rw [ds_ct_y (decide_eq_true z)] at ih'
      exact nm_r (nI_1 _) (nm_r (nI_1 i) ih')
    · rw [ds_ct_n (by rw [decide_eq_true_iff]; exact z)] at ih'
      exact nm_r (nI_1 i) ih'
theorem yl_vis {post : Int32 → Prop} {w : Int32} (V : ds_V t p dx dy wd hg sh we hi so dp) (how : ∀ j, j < 120 → ow j = nI (ds_O t p dx dy wd hg sh lv (j % 12) (j / 12))) (k : post (nI (ds_ct (fun j => decide (ow j = w)) 120))) : ∀ m i n, i + m = 120 → m < n → wY_visible_14 post w T B t p dx dy we hi so lv cl wt wx wy wo wc n (nI (ds_ct (fun j => decide (ow j = w)) i)) (nI i) := by
  intro m
  induction m with
  | zero =>
    intro i n h_i hn
    obtain ⟨n, rfl⟩ : ∃ n', n = n' + 1 := ⟨n - 1, by omega⟩
    have e : i = 120 := by omega
    subst e
    exact br_t (by decide) k
  | succ m ih =>
    intro i n h_i hn
    obtain ⟨n, rfl⟩ : ∃ n', n = n' + 1 := ⟨n - 1, by omega⟩
    have ih' := ih (i + 1) n (by omega) (by omega)
    refine br_f (nI_ge (b := 120) (by omega) (by decide)) ⟨by decide, by decide, ?_⟩
    rw [ds_rm (by omega), ds_dv (by omega)]
    refine yl_owner V (by omega) (by omega) ?_
    rw [← how i (by omega)]
    refine br_c (fun z => ?_) (fun z => ?_)
    · rw [ds_ct_y (decide_eq_true z)] at ih'
      exact nm_r (nI_1 _) (nm_r (nI_1 i) ih')
    · rw [ds_ct_n (by rw [decide_eq_true_iff]; exact z)] at ih'
      exact nm_r (nI_1 i) ih'
/-! paint -/
def ds_pt (ow : Nat → Int32) (w : Int32) (cl : Nat → Int32) : Nat → Int32 := fun j => if ow j = w ∧ cl j = 0 then vp_nar .boolean 1 else cl j
theorem xl_pai {post : Int32 → SX → Prop} {w : Int32} (k : post (nI (ds_ct (fun j => decide (ow j = w ∧ cl j = 0)) 120)) (T, B, t, p, dx, dy, wd, hg, sh, lv, cx, cy, ow, ds_fl 120 (ds_pt ow w cl) cl, fx, fy, fo, fc)) : ∀ m i n, i + m = 120 → m < n → wX_paint_14 post w T B n (nI (ds_ct (fun j => decide (ow j = w ∧ cl j = 0)) i)) (nI i) t p dx dy wd hg sh lv cx cy ow (ds_fl i (ds_pt ow w cl) cl) fx fy fo fc := by
  intro m
  induction m with
  | zero =>
    intro i n h_i hn
    obtain ⟨n, rfl⟩ : ∃ n', n = n' + 1 := ⟨n - 1, by omega⟩
    have e : i = 120 := by omega
    subst e
    exact br_t (by decide) k
  | succ m ih =>
    intro i n h_i hn
    obtain ⟨n, rfl⟩ : ∃ n', n = n' + 1 := ⟨n - 1, by omega⟩
    have hv : vp_in (nI i) 120 := vp_in_nI (by omega) (by decide)
    have e := nI_clamp (n := i) (by omega)
    have ih' := ih (i + 1) n (by omega) (by omega)
    have no : ¬ (ow i = w ∧ cl i = 0) → wX_paint_14 post w T B n (nI (ds_ct (fun j => decide (ow j = w ∧ cl j = 0)) i)) (nI (i + 1)) t p dx dy wd hg sh lv cx cy ow (ds_fl i (ds_pt ow w cl) cl) fx fy fo fc := by
      intro z
      rw [ds_ct_n (by rw [decide_eq_true_iff]; exact z), ds_fl_k (if_neg z)] at ih'
      exact ih'
    refine br_f (nI_ge (b := 120) (by omega) (by decide)) ⟨hv, ?_⟩
    rw [e]
    refine br_c (fun z => ⟨hv, ?_⟩) (fun z => nm_r (nI_1 i) (no (fun q => z q.1)))
    rw [ds_fl_ge (Nat.lt_irrefl i)]
    refine br_c (fun y => ⟨hv, ?_⟩) (fun y => nm_r (nI_1 i) (no (fun q => y q.2)))
    rw [ds_ct_y (decide_eq_true ⟨z, y⟩)] at ih'
    exact nm_r (ds_fl_s (if_pos ⟨z, y⟩).symm) (nm_r (nI_1 _) (nm_r (nI_1 i) ih'))
theorem yl_pai {post : Int32 → SY → Prop} {w : Int32} (V : ds_V t p dx dy wd hg sh we hi so dp) (how : ∀ j, j < 120 → ow j = nI (ds_O t p dx dy wd hg sh lv (j % 12) (j / 12))) (k : post (nI (ds_ct (fun j => decide (ow j = w ∧ cl j = 0)) 120)) (T, B, t, p, dx, dy, we, hi, so, lv, ds_fl 120 (ds_pt ow w cl) cl, wt, wx, wy, wo, wc)) : ∀ m i n, i + m = 120 → m < n → wY_paint_14 post w T B n (nI (ds_ct (fun j => decide (ow j = w ∧ cl j = 0)) i)) (nI i) t p dx dy we hi so lv (ds_fl i (ds_pt ow w cl) cl) wt wx wy wo wc := by
  intro m
  induction m with
  | zero =>
    intro i n h_i hn
    obtain ⟨n, rfl⟩ : ∃ n', n = n' + 1 := ⟨n - 1, by omega⟩
    have e : i = 120 := by omega
    subst e
    exact br_t (by decide) k
  | succ m ih =>
    intro i n h_i hn
    obtain ⟨n, rfl⟩ : ∃ n', n = n' + 1 := ⟨n - 1, by omega⟩
    have hv : vp_in (nI i) 120 := vp_in_nI (by omega) (by decide)
    have e := nI_clamp (n := i) (by omega)
    have ih' := ih (i + 1) n (by omega) (by omega)
    have no : ¬ (ow i = w ∧ cl i = 0) → wY_paint_14 post w T B n (nI (ds_ct (fun j => decide (ow j = w ∧ cl j = 0)) i)) (nI (i + 1)) t p dx dy we hi so lv (ds_fl i (ds_pt ow w cl) cl) wt wx wy wo wc := by
      intro z
      rw [ds_ct_n (by rw [decide_eq_true_iff]; exact z), ds_fl_k (if_neg z)] at ih'
      exact ih'
    refine br_f (nI_ge (b := 120) (by omega) (by decide)) ⟨by decide, by decide, ?_⟩
    rw [ds_rm (by omega), ds_dv (by omega)]
    refine yl_owner V (by omega) (by omega) ?_
    rw [← how i (by omega)]
    refine br_c (fun z => ⟨hv, ?_⟩) (fun z => nm_r (nI_1 i) (no (fun q => z q.1)))
    rw [e, ds_fl_ge (Nat.lt_irrefl i)]
    refine br_c (fun y => ⟨hv, ?_⟩) (fun y => nm_r (nI_1 i) (no (fun q => y q.2)))
    rw [ds_ct_y (decide_eq_true ⟨z, y⟩)] at ih'
    exact nm_r (ds_fl_s (if_pos ⟨z, y⟩).symm) (nm_r (nI_1 _) (nm_r (nI_1 i) ih'))
end
theorem i_vc0 : wpX_init (fun u => wpY_init (fun v => i_Rel 0 u v)) := by
  refine nm_e ?_
  refine nm_e (nm_e (nm_e (nm_e ?_)))
  have t0 : upd (fun _ => 0) 0 (vp_nar .boolean 1) 0 = (1 : Int32) := by rw [pk_us]; exact ds_nar1
  have tn : ∀ j, j ≠ 0 → upd (fun _ => 0) 0 (vp_nar .boolean 1) j = (0 : Int32) := fun j hj => pk_un hj
  have H : ds_T (upd (fun _ => 0) 0 (vp_nar .boolean 1)) (fun _ => 0) (fun _ => 0) := ⟨rfl, by rw [t0]; decide, fun w w1 w6 h => absurd (tn w (by omega)) h⟩
  have z0 : (0 : Int32).toNatClampNeg = 0 := by decide
  have b0 : ds_B (fun _ => 0) := fun w _ => by show -15 ≤ (0 : Int32).toInt ∧ (0 : Int32).toInt ≤ 15; rw [ds_i0]; omega
  have hp : ds_P (fun _ => 0) := fun w _ => by
    have e : ds_up (fun _ => 0) w = 0 := z0
    rw [e]; exact ⟨by omega, rfl⟩
  refine ds_mk (dp := fun _ => 0) ⟨H, hp, b0, b0, fun c _ => ?_, fun c h1 _ => ⟨pk_un (by omega), pk_un (by omega), pk_un (by omega)⟩, fun j => ?_⟩ ⟨fun c hc h => ?_, fun j hj => ?_⟩
  · show (0 ≤ (0 : Int32).toInt ∧ (0 : Int32).toInt ≤ 12) ∧ (0 ≤ (0 : Int32).toInt ∧ (0 : Int32).toInt ≤ 12)
    rw [ds_i0]; omega
  · by_cases e : j = 0
    · subst e; exact Or.inr t0
    · exact Or.inl (tn j e)
  · have e : c = 0 := Classical.byContradiction fun e => h (tn c e)
    subst e
    exact ⟨ds_cs_0.symm, ds_cs_0.symm⟩
  · have e : ds_nx (upd (fun _ => 0) 0 (vp_nar .boolean 1)) (fun _ => 0) (fun _ => 0) (fun _ => 0) (fun _ => 0) (fun _ => 0) (fun _ => 0) (fun _ => 0) (j % 12) (j / 12) 0 = 0 := by
      cases ds_nx_in (t := upd (fun _ => 0) 0 (vp_nar .boolean 1)) (p := fun _ => 0) (dx := fun _ => 0) (dy := fun _ => 0) (wd := fun _ => 0) (hg := fun _ => 0) (sh := fun _ => 0) (lv := fun _ => 0) (x := j % 12) (y := j / 12) (a := 0) with
      | inl e => exact e
      | inr e => exact absurd (tn _ (by omega)) e.2.2.1
    show (0 : Int32) = nI (ds_ow _ 5 0)
    rw [ds_ow_y e]; rfl
theorem i_vc_owner {k : Nat} {u : SX} {v : SY} (I : i_Rel k u v) (hk : k + 5 ≤ 2560) (v1 : Int32) (v2 : Int32) : wpX_owner (fun r => wpY_owner (fun r' => r' = r ∧ i_Rel (k + 5) u v) v v1 v2) u v1 v2 := by
  obtain ⟨T, B, t, p, dx, dy, wd, hg, sh, lv, cx, cy, ow, cl, fx, fy, fo, fc, we, hi, so, wt, wx, wy, wo, wc, dp, rfl, rfl, V, C⟩ := I
  unfold wpX_owner
  refine xl_on (fun z => br_f (by decide) ?_) (fun z => br_t rfl ?_)
  · obtain ⟨a, b, ha, hb, rfl, rfl⟩ := ds_k_ix z.1 z.2.1 z.2.2.1 z.2.2.2
    refine xl_pix ⟨vp_in_nI (by omega) (by decide), ?_⟩
    rw [nI_clamp (n := 12 * b + a) (by omega), C.2 _ (by omega), show (12 * b + a) % 12 = a by omega, show (12 * b + a) / 12 = b by omega]
    exact yl_owner V ha hb ⟨rfl, ds_mk V C⟩
  · exact yl_owner_n z ⟨rfl, ds_mk V C⟩
theorem yl_dirty_n {T B : Int32} {t p dx dy we hi so lv cl wt wx wy wo wc : Nat → Int32} {post : Int32 → Prop} {A D : Int32} (h : ¬ (0 ≤ A ∧ A < 12 ∧ 0 ≤ D ∧ D < 10)) (k : post (-1)) : wpY_dirty post (T, B, t, p, dx, dy, we, hi, so, lv, cl, wt, wx, wy, wo, wc) A D := by
  refine br_c (fun _ => k) (fun z1 => br_c (fun _ => k) (fun z2 => br_c (fun _ => k) (fun z3 => br_c (fun z4 => ?_) (fun _ => k))))
  obtain ⟨a, ha, rfl⟩ := nI_of z1
  obtain ⟨b, hb, rfl⟩ := nI_of z3
  have a1 := (not_congr (nI_ltI (a := 11) (b := a) (by decide) ha)).mp z2
  have b1 := (nI_leI (a := b) (b := 9) hb (by decide)).mp z4
  exact absurd ⟨nI_pos' ha, nI_lt (b := 12) (by omega) (by decide), nI_pos' hb, nI_lt (b := 10) (by omega) (by decide)⟩ h
theorem i_vc_dirty {k : Nat} {u : SX} {v : SY} (I : i_Rel k u v) (hk : k + 5 ≤ 2560) (v1 : Int32) (v2 : Int32) : wpX_dirty (fun r => wpY_dirty (fun r' => r' = r ∧ i_Rel (k + 5) u v) v v1 v2) u v1 v2 := by
  obtain ⟨T, B, t, p, dx, dy, wd, hg, sh, lv, cx, cy, ow, cl, fx, fy, fo, fc, we, hi, so, wt, wx, wy, wo, wc, dp, rfl, rfl, V, C⟩ := I
  unfold wpX_dirty
  refine xl_on (fun z => br_f (by decide) ?_) (fun z => br_t rfl ?_)
  · obtain ⟨a, b, ha, hb, rfl, rfl⟩ := ds_k_ix z.1 z.2.1 z.2.2.1 z.2.2.2
    have ei : (12 : Int32) * nI b + nI a = nI (12 * b + a) := by
      rw [show (12 : Int32) = nI 12 from rfl, pk_mul, nI_add]
    have hq : vp_in (nI (12 * b + a)) 120 := vp_in_nI (by omega) (by decide)
    have e := nI_clamp (n := 12 * b + a) (by omega)
    have yl : ∀ post : Int32 → Prop, (cl (12 * b + a) = 0 → post 1) → (¬ cl (12 * b + a) = 0 → post 0) → wpY_dirty post (T, B, t, p, dx, dy, we, hi, so, lv, cl, wt, wx, wy, wo, wc) (nI a) (nI b) := by
      intro post k1 k0
      refine br_f (nI_pos (by omega)) (br_f (nI_nlt (a := 11) (by omega) (by decide)) (br_f (nI_pos (by omega)) (br_t (nI_le (b := 9) (by omega) (by decide)) ?_)))
      rw [ei, e]
      exact ⟨hq, br_c k1 k0⟩
    refine xl_pix ⟨hq, ?_⟩
    rw [e]
    exact br_c (fun c => yl _ (fun _ => ⟨rfl, ds_mk V C⟩) (fun d => absurd c d)) (fun c => yl _ (fun d => absurd d c) (fun _ => ⟨rfl, ds_mk V C⟩))
  · exact yl_dirty_n z ⟨rfl, ds_mk V C⟩
theorem i_vc_visible {k : Nat} {u : SX} {v : SY} (I : i_Rel k u v) (hk : k + 5 ≤ 2560) (v1 : Int32) : wpX_visible (fun r => wpY_visible (fun r' => r' = r ∧ i_Rel (k + 5) u v) v v1) u v1 := by
  obtain ⟨T, B, t, p, dx, dy, wd, hg, sh, lv, cx, cy, ow, cl, fx, fy, fo, fc, we, hi, so, wt, wx, wy, wo, wc, dp, rfl, rfl, V, C⟩ := I
  unfold wpX_visible
  by_cases h : ∃ a : Nat, a < 6 ∧ v1 = nI a ∧ t a ≠ 0
  · obtain ⟨a, ha, rfl, ht⟩ := h
    refine xl_there_y ha ht (br_f (by decide) ⟨121, ?_⟩)
    refine xl_vis (w := nI a) ?_ 120 0 121 (by omega) (by omega)
    unfold wpY_visible
    refine yl_miss_n ha ht (br_t rfl ⟨121, ?_⟩)
    exact yl_vis (w := nI a) V C.2 ⟨rfl, ds_mk V C⟩ 120 0 121 (by omega) (by omega)
  · refine xl_there_n h (br_t rfl ?_)
    unfold wpY_visible
    exact yl_miss_y h (br_f (by decide) ⟨rfl, ds_mk V C⟩)
theorem i_vc_paint {k : Nat} {u : SX} {v : SY} (I : i_Rel k u v) (hk : k + 5 ≤ 2560) (v1 : Int32) : wpX_paint (fun r u' => wpY_paint (fun r' v' => r' = r ∧ i_Rel (k + 5) u' v') v v1) u v1 := by
  obtain ⟨T, B, t, p, dx, dy, wd, hg, sh, lv, cx, cy, ow, cl, fx, fy, fo, fc, we, hi, so, wt, wx, wy, wo, wc, dp, rfl, rfl, V, C⟩ := I
  unfold wpX_paint
  by_cases h : ∃ a : Nat, a < 6 ∧ v1 = nI a ∧ t a ≠ 0
  · obtain ⟨a, ha, rfl, ht⟩ := h
    refine xl_there_y ha ht (br_f (by decide) ⟨121, ?_⟩)
    have hX := fun post k => xl_pai (post := post) (T := T) (B := B) (t := t) (p := p) (dx := dx) (dy := dy) (wd := wd) (hg := hg) (sh := sh) (lv := lv) (cx := cx) (cy := cy) (ow := ow) (cl := cl) (fx := fx) (fy := fy) (fo := fo) (fc := fc) (w := nI a) k 120 0 121 (by omega) (by omega)
    rw [ds_fl_0] at hX
    refine hX _ ?_
    unfold wpY_paint
    refine yl_miss_n ha ht (br_t rfl ⟨121, ?_⟩)
    have hY := fun post k => yl_pai (post := post) (T := T) (B := B) (cl := cl) (wt := wt) (wx := wx) (wy := wy) (wo := wo) (wc := wc) (w := nI a) V C.2 k 120 0 121 (by omega) (by omega)
    rw [ds_fl_0] at hY
    exact hY _ ⟨rfl, ds_mk V C⟩
  · refine xl_there_n h (br_t rfl ?_)
    unfold wpY_paint
    exact yl_miss_y h (br_f (by decide) ⟨rfl, ds_mk V C⟩)
end
section
/-! move, size, raise, show -/
theorem ds_B_u {d : Nat → Int32} {a : Nat} {z : Int32} (h : ds_B d) (h1 : -15 ≤ z.toInt) (h2 : z.toInt ≤ 15) : ds_B (upd d a z) := by
  intro w hw
  by_cases e : w = a
  · subst e; rw [pk_us]; exact ⟨h1, h2⟩
  · rw [pk_un e]; exact h w hw
theorem ds_u2 {f g : Nat → Int32} {a c : Nat} {z : Int32} (h : f c = g c) : upd f a z c = upd g a z c := by
  by_cases e : c = a
  · subst e; rw [pk_us, pk_us]
  · rw [pk_un e, pk_un e]; exact h
theorem ds_u12 {f : Nat → Int32} {a c : Nat} {z : Int32} (h : 0 ≤ (f c).toInt ∧ (f c).toInt ≤ 12) (hz : 0 ≤ z.toInt ∧ z.toInt ≤ 12) : 0 ≤ (upd f a z c).toInt ∧ (upd f a z c).toInt ≤ 12 := by
  by_cases e : c = a
  · subst e; rw [pk_us]; exact hz
  · rw [pk_un e]; exact h
theorem xl_off {post : Int32 → Prop} {z : Int32} (k1 : ¬ z < -15 ∧ ¬ 15 < z → post 1) (k0 : ¬ (¬ z < -15 ∧ ¬ 15 < z) → post 0) : wpX_isOffset post z :=
  br_c (fun h => k0 (fun q => q.1 h)) (fun h1 => br_c (fun h => k0 (fun q => q.2 h)) (fun h2 => k1 ⟨h1, h2⟩))
theorem ds_o15 {z : Int32} (h : ¬ z < -15 ∧ ¬ 15 < z) : -15 ≤ z.toInt ∧ z.toInt ≤ 15 := by
  rw [Int32.lt_iff_toInt_lt, Int32.lt_iff_toInt_lt, show (-15 : Int32).toInt = -15 from by decide, ds_15] at h
  omega
theorem yl_len {post : Int32 → Prop} {s : Int32} (k : post (ds_ln s)) : wpY_length post s := by
  unfold ds_ln at k
  by_cases z : s = 0
  · rw [if_pos z] at k; exact br_t z k
  · rw [if_neg z] at k
    by_cases y : 12 < s
    · rw [if_pos y] at k; exact br_f z (br_f (Int32.not_le.mpr y) k)
    · rw [if_neg y] at k; exact br_f z (br_t (Int32.not_lt.mp y) k)
section
variable {T B : Int32} {t p dx dy wd hg sh lv cx cy ow cl fx fy fo fc : Nat → Int32}
theorem xl_sides {post : SX → Prop} {a : Nat} {s : Int32} (ha : a < 6) (k : post (T, B, t, p, dx, dy, upd wd a (ds_ln (s &&& 15)), upd hg a (ds_ln ((s >>> ((4 : Int32) &&& 31)) &&& 15)), sh, lv, cx, cy, ow, cl, fx, fy, fo, fc)) : wpX_setSides post (T, B, t, p, dx, dy, wd, hg, sh, lv, cx, cy, ow, cl, fx, fy, fo, fc) (nI a) s := by
  have hv : vp_in (nI a) 6 := vp_in_nI ha (by decide)
  have e := nI_clamp (n := a) (by omega)
  unfold wpX_setSides
  refine xl_side ⟨hv, nm_r (e' := upd wd a (ds_ln (s &&& 15))) (by rw [e]) ?_⟩
  exact xl_side ⟨hv, nm_r (e' := upd hg a (ds_ln ((s >>> ((4 : Int32) &&& 31)) &&& 15))) (by rw [e]) k⟩
theorem xl_ptop {post : SX → Prop} {a : Nat} (ha : a < 6) (k : post (T + 1, B, t, p, dx, dy, wd, hg, sh, upd lv a (T + 1), cx, cy, ow, cl, fx, fy, fo, fc)) : wpX_putOnTop post (T, B, t, p, dx, dy, wd, hg, sh, lv, cx, cy, ow, cl, fx, fy, fo, fc) (nI a) := by
  have hv : vp_in (nI a) 6 := vp_in_nI ha (by decide)
  have e := nI_clamp (n := a) (by omega)
  exact nm_e ⟨hv, nm_r (e' := upd lv a (T + 1)) (by rw [e]) k⟩
theorem xl_pbot {post : SX → Prop} {a : Nat} (ha : a < 6) (k : post (T, B - 1, t, p, dx, dy, wd, hg, sh, upd lv a (B - 1), cx, cy, ow, cl, fx, fy, fo, fc)) : wpX_putAtBottom post (T, B, t, p, dx, dy, wd, hg, sh, lv, cx, cy, ow, cl, fx, fy, fo, fc) (nI a) := by
  have hv : vp_in (nI a) 6 := vp_in_nI ha (by decide)
  have e := nI_clamp (n := a) (by omega)
  exact nm_e ⟨hv, nm_r (e' := upd lv a (B - 1)) (by rw [e]) k⟩
end
section
variable {T B : Int32} {t p dx dy we hi so lv cl wt wx wy wo wc : Nat → Int32}
theorem yl_ssize {post : SY → Prop} {a : Nat} {s : Int32} (ha : a < 6) (k : post (T, B, t, p, dx, dy, upd we a (ds_ln (s &&& 15)), upd hi a (ds_ln ((s >>> ((4 : Int32) &&& 31)) &&& 15)), so, lv, cl, wt, wx, wy, wo, wc)) : wpY_setSize post (T, B, t, p, dx, dy, we, hi, so, lv, cl, wt, wx, wy, wo, wc) (nI a) s := by
  have hv : vp_in (nI a) 6 := vp_in_nI ha (by decide)
  have e := nI_clamp (n := a) (by omega)
  unfold wpY_setSize
  refine yl_len ⟨hv, nm_r (e' := upd we a (ds_ln (s &&& 15))) (by rw [e]) ?_⟩
  exact yl_len ⟨hv, nm_r (e' := upd hi a (ds_ln ((s >>> ((4 : Int32) &&& 31)) &&& 15))) (by rw [e]) k⟩
theorem yl_ref {post : Int32 → Prop} {w : Int32} (h : ¬ ∃ a : Nat, a ≠ 0 ∧ a < 6 ∧ w = nI a ∧ t a ≠ 0) (k1 : post 1) (k0 : w = 0 → post 0) : wpY_missing post (T, B, t, p, dx, dy, we, hi, so, lv, cl, wt, wx, wy, wo, wc) w := by
  by_cases m : ∃ a : Nat, a < 6 ∧ w = nI a ∧ t a ≠ 0
  · obtain ⟨a, ha, rfl, ht⟩ := m
    have e : a = 0 := Classical.byContradiction fun e => h ⟨a, e, ha, rfl, ht⟩
    subst e
    exact yl_miss_n ha ht (k0 rfl)
  · exact yl_miss_y m k1
end
theorem i_vc_move {k : Nat} {u : SX} {v : SY} (I : i_Rel k u v) (hk : k + 5 ≤ 2560) (v1 : Int32) (v2 : Int32) (v3 : Int32) : wpX_move (fun r u' => wpY_move (fun r' v' => r' = r ∧ i_Rel (k + 5) u' v') v v1 v2 v3) u v1 v2 v3 := by
  obtain ⟨T, B, t, p, dx, dy, wd, hg, sh, lv, cx, cy, ow, cl, fx, fy, fo, fc, we, hi, so, wt, wx, wy, wo, wc, dp, rfl, rfl, V, C⟩ := I
  unfold wpX_move
  by_cases h : ∃ a : Nat, a ≠ 0 ∧ a < 6 ∧ v1 = nI a ∧ t a ≠ 0
  · obtain ⟨a, a0, ha, rfl, ht⟩ := h
    have hv : vp_in (nI a) 6 := vp_in_nI ha (by decide)
    have e := nI_clamp (n := a) (by omega)
    refine xl_chg_y a0 ha ht (br_f (by decide) ?_)
    refine xl_off (fun z => br_f (by decide) ?_) (fun z => br_t rfl ?_)
    · refine xl_off (fun z' => br_f (by decide) ?_) (fun z' => br_t rfl ?_)
      · refine ⟨hv, nm_r (e' := upd dx a v2) (by rw [e]) ⟨hv, nm_r (e' := upd dy a v3) (by rw [e]) ?_⟩⟩
        have V' : ds_V t p (upd dx a v2) (upd dy a v3) wd hg sh we hi so dp := ⟨V.1, V.2.1, ds_B_u V.2.2.1 (ds_o15 z).1 (ds_o15 z).2, ds_B_u V.2.2.2.1 (ds_o15 z').1 (ds_o15 z').2, V.2.2.2.2⟩
        refine xl_settle V.1 C V.1 V.2.1 (fun cx' cy' ow' fx' fy' fo' fc' C' => ?_)
        unfold wpY_move
        refine yl_miss_n ha ht (br_t rfl (br_f (nI_ne0 (by omega) (by omega)) ?_))
        refine br_f z.1 (br_f z.2 (br_f z'.1 (br_t (Int32.not_lt.mp z'.2) ?_)))
        refine yl_rem V (fun wt' wx' wy' wo' wc' Y => ?_)
        refine ⟨hv, nm_r (e' := upd dx a v2) (by rw [e]) ⟨hv, nm_r (e' := upd dy a v3) (by rw [e]) ?_⟩⟩
        refine yl_settle V' V.1 V.2.1 Y ?_
        exact ⟨rfl, ds_mk V' C'⟩
      · unfold wpY_move
        refine yl_miss_n ha ht (br_t rfl (br_f (nI_ne0 (by omega) (by omega)) ?_))
        exact br_c (fun _ => ⟨rfl, ds_mk V C⟩) (fun q1 => br_c (fun _ => ⟨rfl, ds_mk V C⟩) (fun q2 => br_c (fun _ => ⟨rfl, ds_mk V C⟩) (fun q3 => br_c (fun q4 => absurd ⟨q3, Int32.not_lt.mpr q4⟩ z') (fun _ => ⟨rfl, ds_mk V C⟩))))
    · unfold wpY_move
      refine yl_miss_n ha ht (br_t rfl (br_f (nI_ne0 (by omega) (by omega)) ?_))
      exact br_c (fun _ => ⟨rfl, ds_mk V C⟩) (fun q1 => br_c (fun _ => ⟨rfl, ds_mk V C⟩) (fun q2 => absurd ⟨q1, q2⟩ z))
  · refine xl_chg_n h (br_t rfl ?_)
    unfold wpY_move
    exact yl_ref h (br_f (by decide) ⟨rfl, ds_mk V C⟩) (fun w0 => br_t rfl (br_t w0 ⟨rfl, ds_mk V C⟩))
theorem i_vc_size {k : Nat} {u : SX} {v : SY} (I : i_Rel k u v) (hk : k + 5 ≤ 2560) (v1 : Int32) (v2 : Int32) : wpX_size (fun r u' => wpY_size (fun r' v' => r' = r ∧ i_Rel (k + 5) u' v') v v1 v2) u v1 v2 := by
  obtain ⟨T, B, t, p, dx, dy, wd, hg, sh, lv, cx, cy, ow, cl, fx, fy, fo, fc, we, hi, so, wt, wx, wy, wo, wc, dp, rfl, rfl, V, C⟩ := I
  unfold wpX_size
  by_cases h : ∃ a : Nat, a ≠ 0 ∧ a < 6 ∧ v1 = nI a ∧ t a ≠ 0
  · obtain ⟨a, a0, ha, rfl, ht⟩ := h
    refine xl_chg_y a0 ha ht (br_f (by decide) ?_)
    refine xl_sides ha ?_
    have V' : ds_V t p dx dy (upd wd a (ds_ln (v2 &&& 15))) (upd hg a (ds_ln ((v2 >>> ((4 : Int32) &&& 31)) &&& 15))) sh (upd we a (ds_ln (v2 &&& 15))) (upd hi a (ds_ln ((v2 >>> ((4 : Int32) &&& 31)) &&& 15))) so dp :=
      ⟨V.1, V.2.1, V.2.2.1, V.2.2.2.1, fun c hc => ⟨ds_u12 (V.2.2.2.2.1 c hc).1 (ds_ln_b _), ds_u12 (V.2.2.2.2.1 c hc).2 (ds_ln_b _)⟩, fun c h1 hc => ⟨ds_u2 (V.2.2.2.2.2.1 c h1 hc).1, ds_u2 (V.2.2.2.2.2.1 c h1 hc).2.1, (V.2.2.2.2.2.1 c h1 hc).2.2⟩, V.2.2.2.2.2.2⟩
    refine xl_settle V.1 C V.1 V.2.1 (fun cx' cy' ow' fx' fy' fo' fc' C' => ?_)
    unfold wpY_size
    refine yl_miss_n ha ht (br_t rfl (br_f (nI_ne0 (by omega) (by omega)) ?_))
    refine yl_rem V (fun wt' wx' wy' wo' wc' Y => ?_)
    refine yl_ssize ha ?_
    refine yl_settle V' V.1 V.2.1 Y ?_
    exact ⟨rfl, ds_mk V' C'⟩
  · refine xl_chg_n h (br_t rfl ?_)
    unfold wpY_size
    exact yl_ref h (br_f (by decide) ⟨rfl, ds_mk V C⟩) (fun w0 => br_t rfl (br_t w0 ⟨rfl, ds_mk V C⟩))
theorem i_vc_raise {k : Nat} {u : SX} {v : SY} (I : i_Rel k u v) (hk : k + 5 ≤ 2560) (v1 : Int32) (v2 : Int32) : wpX_raise (fun r u' => wpY_raise (fun r' v' => r' = r ∧ i_Rel (k + 5) u' v') v v1 (lw_bz v2)) u v1 (lw_bz v2) := by
  obtain ⟨T, B, t, p, dx, dy, wd, hg, sh, lv, cx, cy, ow, cl, fx, fy, fo, fc, we, hi, so, wt, wx, wy, wo, wc, dp, rfl, rfl, V, C⟩ := I
  unfold wpX_raise
  by_cases h : ∃ a : Nat, a ≠ 0 ∧ a < 6 ∧ v1 = nI a ∧ t a ≠ 0
  · obtain ⟨a, a0, ha, rfl, ht⟩ := h
    have hv : vp_in (nI a) 6 := vp_in_nI ha (by decide)
    have e := nI_clamp (n := a) (by omega)
    refine xl_chg_y a0 ha ht (br_f (by decide) ?_)
    refine br_c (fun z => xl_pbot ha ?_) (fun z => xl_ptop ha ?_)
    · dsimp only
      unfold wX_raise_27
      refine xl_settle V.1 C V.1 V.2.1 (fun cx' cy' ow' fx' fy' fo' fc' C' => ?_)
      unfold wpY_raise
      refine yl_miss_n ha ht (br_t rfl (br_f (nI_ne0 (by omega) (by omega)) ?_))
      refine yl_rem V (fun wt' wx' wy' wo' wc' Y => ?_)
      refine br_t z (nm_e ⟨hv, nm_r (e' := upd lv a (B - 1)) (by rw [e]) ?_⟩)
      unfold wY_raise_65
      refine yl_settle V V.1 V.2.1 Y ?_
      exact ⟨rfl, ds_mk V C'⟩
    · dsimp only
      unfold wX_raise_27
      refine xl_settle V.1 C V.1 V.2.1 (fun cx' cy' ow' fx' fy' fo' fc' C' => ?_)
      unfold wpY_raise
      refine yl_miss_n ha ht (br_t rfl (br_f (nI_ne0 (by omega) (by omega)) ?_))
      refine yl_rem V (fun wt' wx' wy' wo' wc' Y => ?_)
      refine br_f z (nm_e ⟨hv, nm_r (e' := upd lv a (T + 1)) (by rw [e]) ?_⟩)
      unfold wY_raise_65
      refine yl_settle V V.1 V.2.1 Y ?_
      exact ⟨rfl, ds_mk V C'⟩
  · refine xl_chg_n h (br_t rfl ?_)
    unfold wpY_raise
    exact yl_ref h (br_f (by decide) ⟨rfl, ds_mk V C⟩) (fun w0 => br_t rfl (br_t w0 ⟨rfl, ds_mk V C⟩))
theorem i_vc_show {k : Nat} {u : SX} {v : SY} (I : i_Rel k u v) (hk : k + 5 ≤ 2560) (v1 : Int32) (v2 : Int32) : wpX_show (fun r u' => wpY_show (fun r' v' => r' = r ∧ i_Rel (k + 5) u' v') v v1 (lw_bz v2)) u v1 (lw_bz v2) := by
  obtain ⟨T, B, t, p, dx, dy, wd, hg, sh, lv, cx, cy, ow, cl, fx, fy, fo, fc, we, hi, so, wt, wx, wy, wo, wc, dp, rfl, rfl, V, C⟩ := I
  unfold wpX_show
  by_cases h : ∃ a : Nat, a ≠ 0 ∧ a < 6 ∧ v1 = nI a ∧ t a ≠ 0
  · obtain ⟨a, a0, ha, rfl, ht⟩ := h
    have hv : vp_in (nI a) 6 := vp_in_nI ha (by decide)
    have e := nI_clamp (n := a) (by omega)
    refine xl_chg_y a0 ha ht (br_f (by decide) ?_)
    refine ⟨hv, nm_r (e' := upd sh a (vp_nar .boolean (lw_bz v2))) (by rw [e]) ?_⟩
    have V' : ds_V t p dx dy wd hg (upd sh a (vp_nar .boolean (lw_bz v2))) we hi (upd so a (vp_nar .boolean (lw_bz v2))) dp :=
      ⟨V.1, V.2.1, V.2.2.1, V.2.2.2.1, V.2.2.2.2.1, fun c h1 hc => ⟨(V.2.2.2.2.2.1 c h1 hc).1, (V.2.2.2.2.2.1 c h1 hc).2.1, ds_u2 (V.2.2.2.2.2.1 c h1 hc).2.2⟩, V.2.2.2.2.2.2⟩
    refine xl_settle V.1 C V.1 V.2.1 (fun cx' cy' ow' fx' fy' fo' fc' C' => ?_)
    unfold wpY_show
    refine yl_miss_n ha ht (br_t rfl (br_f (nI_ne0 (by omega) (by omega)) ?_))
    refine yl_rem V (fun wt' wx' wy' wo' wc' Y => ?_)
    refine ⟨hv, nm_r (e' := upd so a (vp_nar .boolean (lw_bz v2))) (by rw [e]) ?_⟩
    refine yl_settle V' V.1 V.2.1 Y ?_
    exact ⟨rfl, ds_mk V' C'⟩
  · refine xl_chg_n h (br_t rfl ?_)
    unfold wpY_show
    exact yl_ref h (br_f (by decide) ⟨rfl, ds_mk V C⟩) (fun w0 => br_t rfl (br_t w0 ⟨rfl, ds_mk V C⟩))
end
section
/-! make -/
theorem ds_free (t : Nat → Int32) : ∀ m c, c + m = 6 → 1 ≤ c → (∀ d, 1 ≤ d → d < c → t d ≠ 0) → (∀ d, 1 ≤ d → d < 6 → t d ≠ 0) ∨ ∃ w, 1 ≤ w ∧ w < 6 ∧ t w = 0 ∧ ∀ d, 1 ≤ d → d < w → t d ≠ 0 := by
  intro m
  induction m with
  | zero => intro c hc h1 h; exact Or.inl (fun d d1 d6 => h d d1 (by omega))
  | succ m ih =>
    intro c hc h1 h
    by_cases z : t c = 0
    · exact Or.inr ⟨c, h1, by omega, z, h⟩
    · refine ih (c + 1) (by omega) (by omega) (fun d d1 dc => ?_)
      by_cases e : d = c
      · subst e; exact z
      · exact h d d1 (by omega)
theorem ds_T_mk {t p : Nat → Int32} {dp : Nat → Nat} {w a : Nat} {z : Int32} (H : ds_T t p dp) (hp : ds_P p) (w1 : 1 ≤ w) (w6 : w < 6) (tw : t w = 0) (ha : a < 6) (ta : t a ≠ 0) (hz : z ≠ 0) : ds_T (upd t w z) (upd p w (nI a)) (fun j => if j = w then dp a + 1 else dp j) := by
  have aw : a ≠ w := by intro e; subst e; exact ta tw
  have uw : ds_up (upd p w (nI a)) w = a := by unfold ds_up; rw [pk_us]; exact nI_clamp (by omega)
  refine ⟨?_, by rw [pk_un (by omega)]; exact H.2.1, fun u u1 u6 hu => ?_⟩
  · show (if 0 = w then dp a + 1 else dp 0) = 0
    rw [if_neg (by omega)]; exact H.1
  · show (if u = w then dp a + 1 else dp u) = (if ds_up (upd p w (nI a)) u = w then dp a + 1 else dp (ds_up (upd p w (nI a)) u)) + 1 ∧ (if u = w then dp a + 1 else dp u) ≤ 5 ∧ upd t w z (ds_up (upd p w (nI a)) u) ≠ 0
    by_cases e : u = w
    · subst e
      rw [uw, if_pos rfl, if_neg aw, pk_un aw]
      have := ds_dep H hp w1 w6 tw ha ta
      exact ⟨rfl, by omega, ta⟩
    · have eu : ds_up (upd p w (nI a)) u = ds_up p u := by unfold ds_up; rw [pk_un e]
      rw [pk_un e] at hu
      have q := H.2.2 u u1 u6 hu
      have nw : ds_up p u ≠ w := by intro y; rw [y] at q; exact q.2.2 tw
      rw [eu, if_neg e, if_neg nw, pk_un nw]
      exact q
theorem ds_P_mk {p : Nat → Int32} {w a : Nat} (hp : ds_P p) (ha : a < 6) : ds_P (upd p w (nI a)) := by
  intro u hu
  by_cases e : u = w
  · subst e
    have uw : ds_up (upd p u (nI a)) u = a := by unfold ds_up; rw [pk_us]; exact nI_clamp (by omega)
    rw [uw, pk_us]; exact ⟨ha, rfl⟩
  · have eu : ds_up (upd p w (nI a)) u = ds_up p u := by unfold ds_up; rw [pk_un e]
    rw [eu, pk_un e]; exact hp u hu
section
variable {T B : Int32} {t p dx dy wd hg sh lv cx cy ow cl fx fy fo fc : Nat → Int32}
theorem xl_lf {post : Int32 → Prop} {w : Nat} (w6 : w < 6) (tw : t w = 0) (hl : ∀ d, 1 ≤ d → d < w → t d ≠ 0) (k : post (nI w)) : ∀ m c n, c + m = w → 1 ≤ c → m < n → wX_leastFreeWindow_2 post T B t p dx dy wd hg sh lv cx cy ow cl fx fy fo fc n (nI c) := by
  intro m
  induction m with
  | zero =>
    intro c n hc h1 hn
    obtain ⟨n, rfl⟩ : ∃ n', n = n' + 1 := ⟨n - 1, by omega⟩
    have e : c = w := by omega
    subst e
    refine br_f (nI_ge (b := 6) w6 (by decide)) ⟨vp_in_nI w6 (by decide), ?_⟩
    rw [nI_clamp (n := c) (by omega)]
    exact br_t tw k
  | succ m ih =>
    intro c n hc h1 hn
    obtain ⟨n, rfl⟩ : ∃ n', n = n' + 1 := ⟨n - 1, by omega⟩
    refine br_f (nI_ge (b := 6) (by omega) (by decide)) ⟨vp_in_nI (by omega) (by decide), ?_⟩
    rw [nI_clamp (n := c) (by omega)]
    exact br_f (hl c h1 (by omega)) (nm_r (nI_1 c) (ih (c + 1) n (by omega) (by omega) (by omega)))
theorem xl_lfn {post : Int32 → Prop} (hl : ∀ d, 1 ≤ d → d < 6 → t d ≠ 0) (k : post (-1)) : ∀ m c n, c + m = 6 → 1 ≤ c → m < n → wX_leastFreeWindow_2 post T B t p dx dy wd hg sh lv cx cy ow cl fx fy fo fc n (nI c) := by
  intro m
  induction m with
  | zero =>
    intro c n hc h1 hn
    obtain ⟨n, rfl⟩ : ∃ n', n = n' + 1 := ⟨n - 1, by omega⟩
    have e : c = 6 := by omega
    subst e
    exact br_t (by decide) k
  | succ m ih =>
    intro c n hc h1 hn
    obtain ⟨n, rfl⟩ : ∃ n', n = n' + 1 := ⟨n - 1, by omega⟩
    refine br_f (nI_ge (b := 6) (by omega) (by decide)) ⟨vp_in_nI (by omega) (by decide), ?_⟩
    rw [nI_clamp (n := c) (by omega)]
    exact br_f (hl c h1 (by omega)) (nm_r (nI_1 c) (ih (c + 1) n (by omega) (by omega) (by omega)))
theorem xl_least_y {post : Int32 → Prop} {w : Nat} (w1 : 1 ≤ w) (w6 : w < 6) (tw : t w = 0) (hl : ∀ d, 1 ≤ d → d < w → t d ≠ 0) (k : post (nI w)) : wpX_leastFreeWindow post (T, B, t, p, dx, dy, wd, hg, sh, lv, cx, cy, ow, cl, fx, fy, fo, fc) :=
  ⟨w, xl_lf w6 tw hl k (w - 1) 1 w (by omega) (by omega) (by omega)⟩
theorem xl_least_n {post : Int32 → Prop} (hl : ∀ d, 1 ≤ d → d < 6 → t d ≠ 0) (k : post (-1)) : wpX_leastFreeWindow post (T, B, t, p, dx, dy, wd, hg, sh, lv, cx, cy, ow, cl, fx, fy, fo, fc) :=
  ⟨6, xl_lfn hl k 5 1 6 (by omega) (by omega) (by omega)⟩
end
section
variable {T B : Int32} {t p dx dy we hi so lv cl wt wx wy wo wc : Nat → Int32}
theorem yl_mk_y {post : Int32 → SY → Prop} {a s : Int32} {w : Nat} (w6 : w < 6) (hl : ∀ d, 1 ≤ d → d < w → t d ≠ 0) (k : ∀ n, wY_make_12 post a s T B t p dx dy we hi so lv cl wt wx wy wo wc (n + 1) (nI w)) : ∀ m c n, c + m = w → 1 ≤ c → m < n → wY_make_12 post a s T B t p dx dy we hi so lv cl wt wx wy wo wc n (nI c) := by
  intro m
  induction m with
  | zero =>
    intro c n hc h1 hn
    obtain ⟨n, rfl⟩ : ∃ n', n = n' + 1 := ⟨n - 1, by omega⟩
    have e : c = w := by omega
    subst e
    exact k n
  | succ m ih =>
    intro c n hc h1 hn
    obtain ⟨n, rfl⟩ : ∃ n', n = n' + 1 := ⟨n - 1, by omega⟩
    refine br_f (nI_ge (b := 6) (by omega) (by decide)) ⟨vp_in_nI (by omega) (by decide), ?_⟩
    refine br_f ?_ (nm_r (nI_1 c) (ih (c + 1) n (by omega) (by omega) (by omega)))
    rw [nI_clamp (n := c) (by omega)]
    exact hl c h1 (by omega)
theorem yl_mk_n {post : Int32 → SY → Prop} {a s : Int32} (hl : ∀ d, 1 ≤ d → d < 6 → t d ≠ 0) (k : post (-1) (T, B, t, p, dx, dy, we, hi, so, lv, cl, wt, wx, wy, wo, wc)) : ∀ m c n, c + m = 6 → 1 ≤ c → m < n → wY_make_12 post a s T B t p dx dy we hi so lv cl wt wx wy wo wc n (nI c) := by
  intro m
  induction m with
  | zero =>
    intro c n hc h1 hn
    obtain ⟨n, rfl⟩ : ∃ n', n = n' + 1 := ⟨n - 1, by omega⟩
    have e : c = 6 := by omega
    subst e
    exact br_t (by decide) k
  | succ m ih =>
    intro c n hc h1 hn
    obtain ⟨n, rfl⟩ : ∃ n', n = n' + 1 := ⟨n - 1, by omega⟩
    refine br_f (nI_ge (b := 6) (by omega) (by decide)) ⟨vp_in_nI (by omega) (by decide), ?_⟩
    refine br_f ?_ (nm_r (nI_1 c) (ih (c + 1) n (by omega) (by omega) (by omega)))
    rw [nI_clamp (n := c) (by omega)]
    exact hl c h1 (by omega)
end
theorem i_vc_make {k : Nat} {u : SX} {v : SY} (I : i_Rel k u v) (hk : k + 5 ≤ 2560) (v1 : Int32) (v2 : Int32) : wpX_make (fun r u' => wpY_make (fun r' v' => r' = r ∧ i_Rel (k + 5) u' v') v v1 v2) u v1 v2 := by
  obtain ⟨T, B, t, p, dx, dy, wd, hg, sh, lv, cx, cy, ow, cl, fx, fy, fo, fc, we, hi, so, wt, wx, wy, wo, wc, dp, rfl, rfl, V, C⟩ := I
  have F := ds_free t 5 1 (by omega) (by omega) (fun d d1 d2 => by omega)
  unfold wpX_make
  by_cases h : ∃ a : Nat, a < 6 ∧ v1 = nI a ∧ t a ≠ 0
  · obtain ⟨a, ha, rfl, ta⟩ := h
    rcases F with F | ⟨w, w1, w6, tw, hl⟩
    · refine xl_least_n F ?_
      refine xl_there_y ha ta (br_f (by decide) (br_t rfl ?_))
      unfold wpY_make
      refine yl_miss_n ha ta (br_t rfl ⟨6, ?_⟩)
      exact yl_mk_n F ⟨rfl, ds_mk V C⟩ 5 1 6 (by omega) (by omega) (by omega)
    · have hv : vp_in (nI w) 6 := vp_in_nI w6 (by decide)
      have e := nI_clamp (n := w) (by omega)
      have w0 : w ≠ 0 := by omega
      have n1 : ¬ nI w = -1 := by
        have := ds_en_m w0 w6
        rw [ds_en_n w0] at this
        exact this
      have hT := ds_T_mk (z := vp_nar .boolean 1) V.1 V.2.1 w1 w6 tw ha ta (by decide)
      have hP := ds_P_mk (w := w) V.2.1 ha
      have z15 : -15 ≤ (0 : Int32).toInt ∧ (0 : Int32).toInt ≤ 15 := by decide
      have V' : ds_V (upd t w (vp_nar .boolean 1)) (upd p w (nI a)) (upd dx w 0) (upd dy w 0) (upd wd w (ds_ln (v2 &&& 15))) (upd hg w (ds_ln ((v2 >>> ((4 : Int32) &&& 31)) &&& 15))) (upd sh w (vp_nar .boolean 1))
          (upd we w (ds_ln (v2 &&& 15))) (upd hi w (ds_ln ((v2 >>> ((4 : Int32) &&& 31)) &&& 15))) (upd so w (vp_nar .boolean 1)) (fun j => if j = w then dp a + 1 else dp j) := by
        refine ⟨hT, hP, ds_B_u V.2.2.1 z15.1 z15.2, ds_B_u V.2.2.2.1 z15.1 z15.2, fun c hc => ⟨ds_u12 (V.2.2.2.2.1 c hc).1 (ds_ln_b _), ds_u12 (V.2.2.2.2.1 c hc).2 (ds_ln_b _)⟩, fun c h1 hc => ⟨ds_u2 (V.2.2.2.2.2.1 c h1 hc).1, ds_u2 (V.2.2.2.2.2.1 c h1 hc).2.1, ds_u2 (V.2.2.2.2.2.1 c h1 hc).2.2⟩, fun j => ?_⟩
        by_cases y : j = w
        · subst y; rw [pk_us]; exact Or.inr ds_nar1
        · rw [pk_un y]; exact V.2.2.2.2.2.2 j
      refine xl_least_y w1 w6 tw hl ?_
      refine xl_there_y ha ta (br_f (by decide) (br_f n1 ?_))
      refine ⟨hv, nm_r (e' := upd t w (vp_nar .boolean 1)) (by rw [e]) ⟨hv, nm_r (e' := upd p w (nI a)) (by rw [e]) ⟨hv, nm_r (e' := upd dx w 0) (by rw [e]) ⟨hv, nm_r (e' := upd dy w 0) (by rw [e]) ⟨hv, nm_r (e' := upd sh w (vp_nar .boolean 1)) (by rw [e]) ?_⟩⟩⟩⟩⟩
      refine xl_sides w6 ?_
      refine xl_ptop w6 ?_
      refine xl_settle V.1 C hT hP (fun cx' cy' ow' fx' fy' fo' fc' C' => ?_)
      unfold wpY_make
      refine yl_miss_n ha ta (br_t rfl ⟨w, ?_⟩)
      refine yl_mk_y w6 hl (fun n => ?_) (w - 1) 1 w (by omega) (by omega) (by omega)
      refine br_f (nI_ge (b := 6) w6 (by decide)) ⟨hv, br_t (by rw [e]; exact tw) ?_⟩
      refine yl_rem V (fun wt' wx' wy' wo' wc' Y => ?_)
      refine ⟨hv, nm_r (e' := upd t w (vp_nar .boolean 1)) (by rw [e]) ⟨hv, nm_r (e' := upd p w (nI a)) (by rw [e]) ⟨hv, nm_r (e' := upd dx w 0) (by rw [e]) ⟨hv, nm_r (e' := upd dy w 0) (by rw [e]) ⟨hv, nm_r (e' := upd so w (vp_nar .boolean 1)) (by rw [e]) ?_⟩⟩⟩⟩⟩
      refine yl_ssize w6 ?_
      refine nm_e ⟨hv, nm_r (e' := upd lv w (T + 1)) (by rw [e]) ?_⟩
      refine yl_settle V' V.1 V.2.1 Y ?_
      exact ⟨rfl, ds_mk V' C'⟩
  · have R : wpY_make (fun r' v' => r' = -1 ∧ i_Rel (k + 5) (T, B, t, p, dx, dy, wd, hg, sh, lv, cx, cy, ow, cl, fx, fy, fo, fc) v') (T, B, t, p, dx, dy, we, hi, so, lv, cl, wt, wx, wy, wo, wc) v1 v2 := by
      unfold wpY_make
      exact yl_miss_y h (br_f (by decide) ⟨rfl, ds_mk V C⟩)
    rcases F with F | ⟨w, w1, w6, tw, hl⟩
    · refine xl_least_n F ?_
      exact xl_there_n h (br_t rfl R)
    · refine xl_least_y w1 w6 tw hl ?_
      exact xl_there_n h (br_t rfl R)
end
section
/-! destroy -/
theorem ds_E_fl {t p : Nat → Int32} {a : Nat} : ds_fl 6 (ds_E t p a) t = ds_E t p a := by
  funext j
  by_cases l : j < 6
  · exact ds_fl_lt l
  · rw [ds_fl_ge l]
    exact (if_neg (fun q => l q.2.1)).symm
section
variable {T B : Int32} {t p dx dy wd hg sh lv cx cy ow cl fx fy fo fc : Nat → Int32} {dp : Nat → Nat} {a : Nat}
theorem xl_ro12 {post : Int32 → SX → Prop} {J : Int32 → Int32 → (Nat → Int32) → (Nat → Int32) → (Nat → Int32) → (Nat → Int32) → (Nat → Int32) → (Nat → Int32) → (Nat → Int32) → (Nat → Int32) → (Nat → Int32) → (Nat → Int32) → (Nat → Int32) → (Nat → Int32) → (Nat → Int32) → (Nat → Int32) → (Nat → Int32) → (Nat → Int32) → Prop} {g N : Nat}
    (H : ds_T t p dp) (hp : ds_P p) (a0 : a ≠ 0) (ha : a < 6) (ta : t a ≠ 0)
    (K : ∀ c r, ds_D t p dp a (g + 1) 1 c → r + ds_ct (ds_nz c) 6 = N → J (nI r) (nI (g + 2)) c p dx dy wd hg sh lv cx cy ow cl fx fy fo fc) : ∀ m w n c r, w + m = 6 → 1 ≤ w → m < n → ds_D t p dp a g w c → r + ds_ct (ds_nz c) 6 = N →
    wX_removeOrphans_12 post J (nI (g + 1)) T B n (nI r) (nI w) c p dx dy wd hg sh lv cx cy ow cl fx fy fo fc := by
  intro m
  induction m with
  | zero =>
    intro w n c r hw w1 hn D hr
    obtain ⟨n, rfl⟩ : ∃ n', n = n' + 1 := ⟨n - 1, by omega⟩
    have e : w = 6 := by omega
    subst e
    exact br_t (by decide) (nm_r (nI_1 (g + 1)) (K c r (ds_D_s D) hr))
  | succ m ih =>
    intro w n c r hw w1 hn D hr
    obtain ⟨n, rfl⟩ : ∃ n', n = n' + 1 := ⟨n - 1, by omega⟩
    have hv : vp_in (nI w) 6 := vp_in_nI (by omega) (by decide)
    have e := nI_clamp (n := w) (by omega)
    have hq : vp_in (p w) 6 := by rw [(hp w (by omega)).2]; exact vp_in_nI (hp w (by omega)).1 (by decide)
    have no : ¬ (c w ≠ 0 ∧ c (ds_up p w) = 0) → wX_removeOrphans_12 post J (nI (g + 1)) T B n (nI r) (nI (w + 1)) c p dx dy wd hg sh lv cx cy ow cl fx fy fo fc := fun z =>
      ih (w + 1) n c r (by omega) (by omega) (by omega) (ds_D_n H hp a0 (ds_D_a a0 ha ta D) D z) hr
    refine br_f (nI_ge (b := 6) (by omega) (by decide)) ⟨hv, ?_⟩
    rw [e]
    refine br_c (fun z => nm_r (nI_1 w) (no (fun q => q.1 z))) (fun z => ⟨hv, hq, ?_⟩)
    refine br_c (fun y => ⟨hv, nm_r (e' := upd c w 0) (by rw [ds_nar0]) (nm_r (nI_1 r) (nm_r (nI_1 w) ?_))⟩) (fun y => nm_r (nI_1 w) (no (fun q => y q.2)))
    refine ih (w + 1) n (upd c w 0) (r + 1) (by omega) (by omega) (by omega) (ds_D_y H hp a0 D w1 (by omega) z y) ?_
    have := ds_nz_d (n := 6) (show w < 6 by omega) z
    omega
theorem xl_ro4 {post : Int32 → SX → Prop} {N : Nat}
    (H : ds_T t p dp) (hp : ds_P p) (a0 : a ≠ 0) (ha : a < 6) (ta : t a ≠ 0)
    (K : ∀ r, r + ds_ct (ds_nz (ds_E t p a)) 6 = N → post (nI r) (T, B, ds_E t p a, p, dx, dy, wd, hg, sh, lv, cx, cy, ow, cl, fx, fy, fo, fc)) : ∀ m g n c r, g + m = 5 → m < n → ds_D t p dp a g 1 c → r + ds_ct (ds_nz c) 6 = N →
    wX_removeOrphans_4 post T B n (nI r) (nI (g + 1)) c p dx dy wd hg sh lv cx cy ow cl fx fy fo fc := by
  intro m
  induction m with
  | zero =>
    intro g n c r hg hn D hr
    obtain ⟨n, rfl⟩ : ∃ n', n = n' + 1 := ⟨n - 1, by omega⟩
    have e : g = 5 := by omega
    subst e
    have ec := ds_D_e H D
    subst ec
    exact br_t (by decide) (K r hr)
  | succ m ih =>
    intro g n c r hg hn D hr
    obtain ⟨n, rfl⟩ : ∃ n', n = n' + 1 := ⟨n - 1, by omega⟩
    refine br_f (nI_ge (b := 6) (by omega) (by decide)) ⟨6, ?_⟩
    exact xl_ro12 H hp a0 ha ta (fun c' r' D' hr' => ih (g + 1) n c' r' (by omega) (by omega) D' hr') 5 1 6 c r (by omega) (by omega) (by omega) D hr
theorem xl_orph {post : Int32 → SX → Prop} (H : ds_T t p dp) (hp : ds_P p) (a0 : a ≠ 0) (ha : a < 6) (ta : t a ≠ 0)
    (K : ∀ r, r + 1 + ds_ct (ds_nz (ds_E t p a)) 6 = ds_ct (ds_nz t) 6 → post (nI r) (T, B, ds_E t p a, p, dx, dy, wd, hg, sh, lv, cx, cy, ow, cl, fx, fy, fo, fc)) : wpX_removeOrphans post (T, B, upd t a 0, p, dx, dy, wd, hg, sh, lv, cx, cy, ow, cl, fx, fy, fo, fc) := by
  have q := ds_nz_d (n := 6) ha ta
  exact ⟨6, xl_ro4 (N := ds_ct (ds_nz (upd t a 0)) 6) H hp a0 ha ta (fun r hr => K r (by omega)) 5 0 6 (upd t a 0) 0 (by omega) (by omega) (ds_D_0 H hp a0 ha) (by omega)⟩
end
section
variable {T B : Int32} {t p dx dy we hi so lv cl wt wx wy wo wc : Nat → Int32} {dp : Nat → Nat} {a : Nat}
theorem yl_wi5 {post : Int32 → Prop} (hp : ds_P p) (ha : a < 6) : ∀ m b s n, b < 6 → s + m = 6 → m < n → (ds_wi p a m b = true → post 1) → (ds_wi p a m b = false → post 0) → wY_within_5 post (nI a) T B t p dx dy we hi so lv cl wt wx wy wo wc n (nI b) (nI s) := by
  intro m
  induction m with
  | zero =>
    intro b s n hb hs hn k1 k0
    obtain ⟨n, rfl⟩ : ∃ n', n = n' + 1 := ⟨n - 1, by omega⟩
    have e : s = 6 := by omega
    subst e
    exact br_t (by decide) (k0 rfl)
  | succ m ih =>
    intro b s n hb hs hn k1 k0
    obtain ⟨n, rfl⟩ : ∃ n', n = n' + 1 := ⟨n - 1, by omega⟩
    have hv : vp_in (nI b) 6 := vp_in_nI (by omega) (by decide)
    have e := nI_clamp (n := b) (by omega)
    by_cases z : b = 0
    · subst z
      exact br_f (nI_ge (b := 6) (by omega) (by decide)) (br_t (by decide) (k0 ds_wi_0))
    · by_cases y : b = a
      · subst y
        exact br_f (nI_ge (b := 6) (by omega) (by decide)) (br_f (nI_nle (by omega) (by omega)) (br_t rfl (k1 (ds_wi_a z))))
      · rw [ds_wi_n z y] at k1 k0
        exact br_f (nI_ge (b := 6) (by omega) (by decide)) (br_f (nI_nle (by omega) (by omega)) (br_f (fun q => y ((nI_eq (by omega) (by omega)).mp q)) ⟨hv, nm_r (by rw [e]; exact (hp b hb).2) (nm_r (nI_1 s) (ih (ds_up p b) (s + 1) n (hp b hb).1 (by omega) (by omega) k1 k0))⟩))
theorem yl_within {post : Int32 → Prop} (hp : ds_P p) (ha : a < 6) {b : Nat} (hb : b < 6) (k1 : ds_wi p a 6 b = true → post 1) (k0 : ds_wi p a 6 b = false → post 0) : wpY_within post (T, B, t, p, dx, dy, we, hi, so, lv, cl, wt, wx, wy, wo, wc) (nI b) (nI a) :=
  ⟨7, yl_wi5 hp ha 6 b 0 7 hb (by omega) (by omega) k1 k0⟩
theorem yl_de22 {post : Int32 → SY → Prop} {N : Nat} (hp : ds_P p) (ha : a < 6) (hwt : ∀ c, c < 6 → (wt c = 0 ↔ t c = 0))
    (K : ∀ r, r + ds_ct (ds_nz (ds_E t p a)) 6 = N → wpY_settle (fun u => post (nI r) u) (T, B, ds_E t p a, p, dx, dy, we, hi, so, lv, cl, wt, wx, wy, wo, wc)) : ∀ m w n r, w + m = 6 → 1 ≤ w → m < n → r + ds_ct (ds_nz (ds_fl w (ds_E t p a) t)) 6 = N →
    wY_destroy_22 post (nI a) T B n (nI r) (nI w) (ds_fl w (ds_E t p a) t) p dx dy we hi so lv cl wt wx wy wo wc := by
  intro m
  induction m with
  | zero =>
    intro w n r hw w1 hn hr
    obtain ⟨n, rfl⟩ : ∃ n', n = n' + 1 := ⟨n - 1, by omega⟩
    have e : w = 6 := by omega
    subst e
    rw [ds_E_fl] at hr ⊢
    exact br_t (by decide) (K r hr)
  | succ m ih =>
    intro w n r hw w1 hn hr
    obtain ⟨n, rfl⟩ : ∃ n', n = n' + 1 := ⟨n - 1, by omega⟩
    have hv : vp_in (nI w) 6 := vp_in_nI (by omega) (by decide)
    have e := nI_clamp (n := w) (by omega)
    have no : ¬ (t w ≠ 0 ∧ ds_wi p a 6 w = true) → wY_destroy_22 post (nI a) T B n (nI r) (nI (w + 1)) (ds_fl w (ds_E t p a) t) p dx dy we hi so lv cl wt wx wy wo wc := by
      intro z
      have ih' := ih (w + 1) n r (by omega) (by omega) (by omega)
      rw [ds_fl_k (ds_E_n z)] at ih'
      exact ih' hr
    refine br_f (nI_ge (b := 6) (by omega) (by decide)) ⟨hv, ?_⟩
    rw [e]
    refine br_c (fun z => nm_r (nI_1 w) (no (fun q => q.1 ((hwt w (by omega)).mp z)))) (fun z => ?_)
    have tw : t w ≠ 0 := fun y => z ((hwt w (by omega)).mpr y)
    refine yl_within hp ha (by omega) (fun y => br_f (by decide) ⟨hv, ?_⟩) (fun y => br_t rfl (nm_r (nI_1 w) (no (fun q => by rw [y] at q; exact absurd q.2 (by decide)))))
    have eE : ds_E t p a w = 0 := ds_E_y w1 (by omega) tw y
    have eu : upd (ds_fl w (ds_E t p a) t) w 0 = ds_fl (w + 1) (ds_E t p a) t := ds_fl_s eE.symm
    refine nm_r (e' := ds_fl (w + 1) (ds_E t p a) t) (by rw [ds_nar0]; exact eu) (nm_r (nI_1 r) (nm_r (nI_1 w) ?_))
    refine ih (w + 1) n (r + 1) (by omega) (by omega) (by omega) ?_
    have q := ds_nz_d (a := ds_fl w (ds_E t p a) t) (n := 6) (show w < 6 by omega) (by rw [ds_fl_ge (Nat.lt_irrefl w)]; exact tw)
    rw [eu] at q
    omega
end
theorem i_vc_destroy {k : Nat} {u : SX} {v : SY} (I : i_Rel k u v) (hk : k + 5 ≤ 2560) (v1 : Int32) : wpX_destroy (fun r u' => wpY_destroy (fun r' v' => r' = r ∧ i_Rel (k + 5) u' v') v v1) u v1 := by
  obtain ⟨T, B, t, p, dx, dy, wd, hg, sh, lv, cx, cy, ow, cl, fx, fy, fo, fc, we, hi, so, wt, wx, wy, wo, wc, dp, rfl, rfl, V, C⟩ := I
  unfold wpX_destroy
  by_cases h : ∃ a : Nat, a ≠ 0 ∧ a < 6 ∧ v1 = nI a ∧ t a ≠ 0
  · obtain ⟨a, a0, ha, rfl, ht⟩ := h
    have hv : vp_in (nI a) 6 := vp_in_nI ha (by decide)
    have e := nI_clamp (n := a) (by omega)
    have hT := ds_E_T V.1 V.2.1 a0
    have V' : ds_V (ds_E t p a) p dx dy wd hg sh we hi so dp := ⟨hT, V.2.1, V.2.2.1, V.2.2.2.1, V.2.2.2.2.1, V.2.2.2.2.2.1, ds_E_01 V.2.2.2.2.2.2⟩
    refine xl_chg_y a0 ha ht (br_f (by decide) ⟨hv, nm_r (e' := upd t a 0) (by rw [e, ds_nar0]) ?_⟩)
    refine xl_orph V.1 V.2.1 a0 ha ht (fun r hr => ?_)
    refine xl_settle V.1 C hT V.2.1 (fun cx' cy' ow' fx' fy' fo' fc' C' => ?_)
    unfold wpY_destroy
    refine yl_miss_n ha ht (br_t rfl (br_f (nI_ne0 (by omega) (by omega)) ?_))
    refine yl_rem V (fun wt' wx' wy' wo' wc' Y => ⟨6, ?_⟩)
    have hY := fun post N K hr' => yl_de22 (post := post) (T := T) (B := B) (t := t) (dx := dx) (dy := dy) (we := we) (hi := hi) (so := so) (lv := lv) (cl := cl) (wt := wt') (wx := wx') (wy := wy') (wo := wo') (wc := wc') (N := N) V.2.1 ha (fun c hc => (Y.1 c hc).1) K 5 1 6 0 (by omega) (by omega) (by omega) hr'
    rw [ds_fl_1 (show ds_E t p a 0 = t 0 from if_neg (fun q => absurd q.1 (by decide)))] at hY
    refine hY _ (ds_ct (ds_nz t) 6) (fun r' hr' => ?_) (by omega)
    refine yl_settle V' V.1 V.2.1 Y ?_
    refine ⟨?_, ds_mk V' C'⟩
    rw [show r' = r + 1 by omega, ← nI_1, Int32.add_comm]
  · refine xl_chg_n h (br_t rfl ?_)
    unfold wpY_destroy
    exact yl_ref h (br_f (by decide) ⟨rfl, ds_mk V C⟩) (fun w0 => br_t rfl (br_t w0 ⟨rfl, ds_mk V C⟩))
end
section
/-! spoil -/
theorem xl_spn {post : Int32 → Prop} {z : Int32} (k1 : ¬ z < 0 ∧ ¬ 15 < z → post 1) (k0 : ¬ (¬ z < 0 ∧ ¬ 15 < z) → post 0) : wpX_isSpoilNumber post z :=
  br_c (fun h => k0 (fun q => q.1 h)) (fun h1 => br_c (fun h => k0 (fun q => q.2 h)) (fun h2 => k1 ⟨h1, h2⟩))
theorem ds_i12 : (12 : Int32).toInt = 12 := by decide
theorem ds_i10 : (10 : Int32).toInt = 10 := by decide
theorem ds_onI {A D : Int32} : (0 ≤ A ∧ A < 12 ∧ 0 ≤ D ∧ D < 10) ↔ (0 ≤ A.toInt ∧ A.toInt < 12 ∧ 0 ≤ D.toInt ∧ D.toInt < 10) := by
  simp only [Int32.le_iff_toInt_le, Int32.lt_iff_toInt_lt, ds_i0, ds_i12, ds_i10]
section
variable {T B : Int32} {t p dx dy wd hg sh lv cx cy ow cl fx fy fo fc : Nat → Int32}
theorem xl_spx {post : Int32 → SX → Prop} {w A D : Int32} (k0 : ¬ (0 ≤ A ∧ A < 12 ∧ 0 ≤ D ∧ D < 10) → post 0 (T, B, t, p, dx, dy, wd, hg, sh, lv, cx, cy, ow, cl, fx, fy, fo, fc))
    (kn : ∀ a b : Nat, a < 12 → b < 10 → A = nI a → D = nI b → ¬ (ow (12 * b + a) = w ∧ cl (12 * b + a) ≠ 0) → post 0 (T, B, t, p, dx, dy, wd, hg, sh, lv, cx, cy, ow, cl, fx, fy, fo, fc))
    (ky : ∀ a b : Nat, a < 12 → b < 10 → A = nI a → D = nI b → ow (12 * b + a) = w → cl (12 * b + a) ≠ 0 → post 1 (T, B, t, p, dx, dy, wd, hg, sh, lv, cx, cy, ow, upd cl (12 * b + a) 0, fx, fy, fo, fc)) : wpX_spoilPixel post (T, B, t, p, dx, dy, wd, hg, sh, lv, cx, cy, ow, cl, fx, fy, fo, fc) w A D := by
  unfold wpX_spoilPixel
  refine xl_on (fun z => br_f (by decide) ?_) (fun z => br_t rfl (k0 z))
  obtain ⟨a, b, ha, hb, rfl, rfl⟩ := ds_k_ix z.1 z.2.1 z.2.2.1 z.2.2.2
  have hq : vp_in (nI (12 * b + a)) 120 := vp_in_nI (by omega) (by decide)
  have e := nI_clamp (n := 12 * b + a) (by omega)
  refine xl_pix ⟨hq, ?_⟩
  rw [e]
  exact br_c (fun o => ⟨hq, br_c (fun c => kn a b ha hb rfl rfl (fun q => q.2 c)) (fun c => ⟨hq, nm_r (e' := upd cl (12 * b + a) 0) (by rw [ds_nar0]) (ky a b ha hb rfl rfl o c)⟩)⟩) (fun o => kn a b ha hb rfl rfl (fun q => o q.1))
theorem xl_sp81 {post : Int32 → SX → Prop} {J : Int32 → Int32 → Int32 → Int32 → (Nat → Int32) → (Nat → Int32) → (Nat → Int32) → (Nat → Int32) → (Nat → Int32) → (Nat → Int32) → (Nat → Int32) → (Nat → Int32) → (Nat → Int32) → (Nat → Int32) → (Nat → Int32) → (Nat → Int32) → (Nat → Int32) → (Nat → Int32) → (Nat → Int32) → (Nat → Int32) → Prop} {z x6 X5 Y5 : Int32} {L U : Int} {W r N : Nat}
    (hL : X5.toInt = L) (hU : Y5.toInt = U) (L1 : -1000 ≤ L) (L2 : L ≤ 1000) (U1 : -1000 ≤ U) (U2 : U ≤ 1000) (hW : W ≤ 15) (hr : r ≤ 15)
    (K : ∀ s, s + ds_ct (ds_nz (ds_sp ow z (ds_bf L U W r W) cl)) 120 = N → J (nI s) (nI (r + 1)) T B t p dx dy wd hg sh lv cx cy ow (ds_sp ow z (ds_bf L U W r W) cl) fx fy fo fc) : ∀ m c n s, c + m = W → m < n → s + ds_ct (ds_nz (ds_sp ow z (ds_bf L U W r c) cl)) 120 = N →
    wX_spoil_81 post J z (nI W) x6 X5 Y5 (nI r) n (nI s) (nI c) T B t p dx dy wd hg sh lv cx cy ow (ds_sp ow z (ds_bf L U W r c) cl) fx fy fo fc := by
  intro m
  induction m with
  | zero =>
    intro c n s hc hn hs
    obtain ⟨n, rfl⟩ : ∃ n', n = n' + 1 := ⟨n - 1, by omega⟩
    have e : c = W := by omega
    subst e
    exact br_t (nI_le (Nat.le_refl c) (by omega)) (nm_r (nI_1 r) (K s hs))
  | succ m ih =>
    intro c n s hc hn hs
    obtain ⟨n, rfl⟩ : ∃ n', n = n' + 1 := ⟨n - 1, by omega⟩
    have ic := nI_toInt (n := c) (by omega)
    have ir := nI_toInt (n := r) (by omega)
    have eA : (X5 + nI c).toInt = L + (c : Int) := by rw [ds_add (by omega) (by omega), hL, ic]
    have eD : (Y5 + nI r).toInt = U + (r : Int) := by rw [ds_add (by omega) (by omega), hU, ir]
    have no : ds_sp ow z (ds_bf L U W r c) cl = ds_sp ow z (ds_bf L U W r (c + 1)) cl → wX_spoil_81 post J z (nI W) x6 X5 Y5 (nI r) n (nI s) (nI (c + 1)) T B t p dx dy wd hg sh lv cx cy ow (ds_sp ow z (ds_bf L U W r c) cl) fx fy fo fc := by
      intro q
      rw [q] at hs ⊢
      exact ih (c + 1) n s (by omega) (by omega) hs
    refine br_f (nI_ge (by omega) (by omega)) (xl_spx (fun h => br_t rfl (nm_r (nI_1 c) (no ?_))) (fun a b ha hb ea eb h => br_t rfl (nm_r (nI_1 c) (no ?_))) (fun a b ha hb ea eb o h => br_f (by decide) (nm_r (nI_1 s) (nm_r (nI_1 c) ?_))))
    · rw [ds_onI, eA, eD] at h
      exact ds_sp_k (fun j hj _ => Or.inl (ds_bf_off h j hj))
    · have ia : (a : Int) = L + (c : Int) := by rw [← eA, ea]; exact (nI_toInt (by omega)).symm
      have ib : (b : Int) = U + (r : Int) := by rw [← eD, eb]; exact (nI_toInt (by omega)).symm
      refine ds_sp_k (fun j hj ho => ?_)
      by_cases e : j = 12 * b + a
      · subst e
        refine Or.inr (Classical.byContradiction fun y => h ⟨ho, ?_⟩)
        rw [ds_sp_n (ds_bf_f ia ib ha)]
        exact y
      · exact Or.inl (ds_bf_ne ia ib j e).symm
    · have ia : (a : Int) = L + (c : Int) := by rw [← eA, ea]; exact (nI_toInt (by omega)).symm
      have ib : (b : Int) = U + (r : Int) := by rw [← eD, eb]; exact (nI_toInt (by omega)).symm
      have q : upd (ds_sp ow z (ds_bf L U W r c) cl) (12 * b + a) 0 = ds_sp ow z (ds_bf L U W r (c + 1)) cl := ds_sp_u (by omega) o (ds_bf_t ia ib ha (by omega)) (fun j _ e => ds_bf_ne ia ib j e)
      have d := ds_nz_d (n := 120) (show 12 * b + a < 120 by omega) h
      rw [q] at d ⊢
      exact ih (c + 1) n (s + 1) (by omega) (by omega) (by omega)
theorem xl_sp71 {post : Int32 → SX → Prop} {z X5 Y5 : Int32} {L U : Int} {W V N : Nat}
    (hL : X5.toInt = L) (hU : Y5.toInt = U) (L1 : -1000 ≤ L) (L2 : L ≤ 1000) (U1 : -1000 ≤ U) (U2 : U ≤ 1000) (hW : W ≤ 15) (hV : V ≤ 15)
    (K : ∀ s, s + ds_ct (ds_nz (ds_sp ow z (ds_re L U W V) cl)) 120 = N → post (nI s) (T, B, t, p, dx, dy, wd, hg, sh, lv, cx, cy, ow, ds_sp ow z (ds_re L U W V) cl, fx, fy, fo, fc)) : ∀ m r n s, r + m = V → m < n → s + ds_ct (ds_nz (ds_sp ow z (ds_bf L U W r 0) cl)) 120 = N →
    wX_spoil_71 post z (nI W) (nI V) X5 Y5 n (nI s) (nI r) T B t p dx dy wd hg sh lv cx cy ow (ds_sp ow z (ds_bf L U W r 0) cl) fx fy fo fc := by
  intro m
  induction m with
  | zero =>
    intro r n s hr hn hs
    obtain ⟨n, rfl⟩ : ∃ n', n = n' + 1 := ⟨n - 1, by omega⟩
    have e : r = V := by omega
    subst e
    have q : ds_bf L U W r 0 = ds_re L U W r := funext ds_bf_e
    rw [q] at hs ⊢
    exact br_t (nI_le (Nat.le_refl r) (by omega)) (K s hs)
  | succ m ih =>
    intro r n s hr hn hs
    obtain ⟨n, rfl⟩ : ∃ n', n = n' + 1 := ⟨n - 1, by omega⟩
    have q : ds_bf L U W r W = ds_bf L U W (r + 1) 0 := funext ds_bf_r
    refine br_f (nI_ge (by omega) (by omega)) ⟨W + 1, ?_⟩
    refine xl_sp81 hL hU L1 L2 U1 U2 hW (by omega) (fun s' hs' => ?_) W 0 (W + 1) s (by omega) (by omega) hs
    rw [q] at hs' ⊢
    exact ih (r + 1) n s' (by omega) (by omega) hs'
end
def ds_yb (L U : Int) (W V i : Nat) (j : Nat) : Bool := decide (j < i) && ds_re L U W V j
section
variable {T B : Int32} {t p dx dy we hi so lv cl wt wx wy wo wc : Nat → Int32} {wd hg sh : Nat → Int32} {dp : Nat → Nat}
theorem yl_sp67 {post : Int32 → SY → Prop} {ow : Nat → Int32} {z X5 Y5 : Int32} {L U : Int} {W V q N : Nat} (D : ds_V t p dx dy wd hg sh we hi so dp) (how : ∀ j, j < 120 → ow j = nI (ds_O t p dx dy wd hg sh lv (j % 12) (j / 12)))
    (hL : X5.toInt = L) (hU : Y5.toInt = U) (L1 : -1000 ≤ L) (L2 : L ≤ 1000) (U1 : -1000 ≤ U) (U2 : U ≤ 1000) (hq : q < 256) (hW : W = q / 16) (hV : V = q % 16)
    (K : ∀ s, s + ds_ct (ds_nz (ds_sp ow z (ds_re L U W V) cl)) 120 = N → post (nI s) (T, B, t, p, dx, dy, we, hi, so, lv, ds_sp ow z (ds_re L U W V) cl, wt, wx, wy, wo, wc)) : ∀ m i n s, i + m = 120 → m < n → s + ds_ct (ds_nz (ds_sp ow z (ds_yb L U W V i) cl)) 120 = N →
    wY_spoil_67 post z (nI q) X5 Y5 T B n (nI s) (nI i) t p dx dy we hi so lv (ds_sp ow z (ds_yb L U W V i) cl) wt wx wy wo wc := by
  intro m
  induction m with
  | zero =>
    intro i n s h_i hn hs
    obtain ⟨n, rfl⟩ : ∃ n', n = n' + 1 := ⟨n - 1, by omega⟩
    have e : i = 120 := by omega
    subst e
    have g : ds_sp ow z (ds_yb L U W V 120) cl = ds_sp ow z (ds_re L U W V) cl := ds_sp_k (fun j hj _ => Or.inl (by unfold ds_yb; rw [decide_eq_true hj, Bool.true_and]))
    rw [g] at hs ⊢
    exact br_t (by decide) (K s hs)
  | succ m ih =>
    intro i n s h_i hn hs
    obtain ⟨n, rfl⟩ : ∃ n', n = n' + 1 := ⟨n - 1, by omega⟩
    have hv : vp_in (nI i) 120 := vp_in_nI (by omega) (by decide)
    have e := nI_clamp (n := i) (by omega)
    have y0 : ds_yb L U W V i i = false := by unfold ds_yb; rw [decide_eq_false (Nat.lt_irrefl i), Bool.false_and]
    have y1 : ds_yb L U W V (i + 1) i = ds_re L U W V i := by unfold ds_yb; rw [decide_eq_true (Nat.lt_succ_self i), Bool.true_and]
    have yn : ∀ j, j ≠ i → ds_yb L U W V (i + 1) j = ds_yb L U W V i j := by
      intro j hj
      unfold ds_yb
      rw [show decide (j < i + 1) = decide (j < i) from decide_eq_decide.mpr (by omega)]
    have no : (ow i = z → ds_re L U W V i = false ∨ cl i = 0) → wY_spoil_67 post z (nI q) X5 Y5 T B n (nI s) (nI (i + 1)) t p dx dy we hi so lv (ds_sp ow z (ds_yb L U W V i) cl) wt wx wy wo wc := by
      intro h
      have g : ds_sp ow z (ds_yb L U W V i) cl = ds_sp ow z (ds_yb L U W V (i + 1)) cl := by
        refine ds_sp_k (fun j hj ho => ?_)
        by_cases ej : j = i
        · subst ej
          exact (h ho).imp (fun f => by rw [y0, y1, f]) id
        · exact Or.inl (yn j ej).symm
      rw [g] at hs ⊢
      exact ih (i + 1) n s (by omega) (by omega) hs
    have out : ds_re L U W V i = false → wY_spoil_130 post (wY_spoil_67 post z (nI q) X5 Y5 T B n) z (nI q) X5 Y5 (nI s) (nI i) T B t p dx dy we hi so lv (ds_sp ow z (ds_yb L U W V i) cl) wt wx wy wo wc := by
      intro f
      unfold wY_spoil_130 wY_spoil_131
      exact br_t rfl (nm_r (nI_1 i) (no (fun _ => Or.inl f)))
    have q1 : nI q / 16 = nI W := by rw [hW]; exact pk_div (d := 16) (by omega) (by omega) (by omega)
    have q2 : nI q - nI q / 16 * 16 = nI V := by rw [hV]; exact pk_rem (d := 16) (by omega) (by omega) (by omega)
    have im := nI_toInt (n := i % 12) (by omega)
    have id' := nI_toInt (n := i / 12) (by omega)
    have iW := nI_toInt (n := W) (by omega)
    have iV := nI_toInt (n := V) (by omega)
    have eW : (X5 + nI W).toInt = L + (W : Int) := by rw [ds_add (by omega) (by omega), hL, iW]
    have eV : (Y5 + nI V).toInt = U + (V : Int) := by rw [ds_add (by omega) (by omega), hU, iV]
    refine br_f (nI_ge (b := 120) (by omega) (by decide)) ⟨by decide, ?_⟩
    rw [q2, q1, ds_rm (by omega), ds_dv (by omega)]
    refine br_c (fun h => out (decide_eq_false ?_)) (fun h1 => ⟨by decide, by decide, br_c (fun h => out (decide_eq_false ?_)) (fun h2 => ⟨by decide, br_c (fun h => out (decide_eq_false ?_)) (fun h3 => ⟨by decide, by decide, br_c (fun h => out (decide_eq_false ?_)) (fun h4 => ?_)⟩)⟩)⟩)
    · rw [Int32.lt_iff_toInt_lt, im, hL] at h; omega
    · rw [Int32.le_iff_toInt_le, im, eW] at h; omega
    · rw [Int32.lt_iff_toInt_lt, id', hU] at h; omega
    · rw [Int32.le_iff_toInt_le, id', eV] at h; omega
    · rw [Int32.lt_iff_toInt_lt, im, hL] at h1
      rw [Int32.le_iff_toInt_le, im, eW] at h2
      rw [Int32.lt_iff_toInt_lt, id', hU] at h3
      rw [Int32.le_iff_toInt_le, id', eV] at h4
      have f : ds_re L U W V i = true := decide_eq_true (by omega)
      unfold wY_spoil_131
      refine br_f (by decide) ⟨hv, ?_⟩
      rw [e]
      refine br_c (fun c => nm_r (nI_1 i) (no (fun _ => Or.inr (by rw [ds_sp_n y0] at c; exact c)))) (fun c => ⟨by decide, by decide, ?_⟩)
      rw [ds_rm (by omega), ds_dv (by omega)]
      refine yl_owner D (by omega) (by omega) ?_
      rw [← how i (by omega)]
      refine br_c (fun o => ⟨hv, ?_⟩) (fun o => nm_r (nI_1 i) (no (fun o' => absurd o' o)))
      have g : upd (ds_sp ow z (ds_yb L U W V i) cl) i 0 = ds_sp ow z (ds_yb L U W V (i + 1)) cl := ds_sp_u (by omega) o (by rw [y1]; exact f) (fun j _ ej => yn j ej)
      have d := ds_nz_d (n := 120) (show i < 120 by omega) c
      rw [g] at d
      refine nm_r (e' := ds_sp ow z (ds_yb L U W V (i + 1)) cl) (by rw [ds_nar0]; exact g) (nm_r (nI_1 s) (nm_r (nI_1 i) ?_))
      exact ih (i + 1) n (s + 1) (by omega) (by omega) (by omega)
end
theorem i_vc_spoil {k : Nat} {u : SX} {v : SY} (I : i_Rel k u v) (hk : k + 5 ≤ 2560) (v1 : Int32) (v2 : Int32) (v3 : Int32) (v4 : Int32) : wpX_spoil (fun r u' => wpY_spoil (fun r' v' => r' = r ∧ i_Rel (k + 5) u' v') v v1 v2 v3 v4) u v1 v2 v3 v4 := by
  obtain ⟨T, B, t, p, dx, dy, wd, hg, sh, lv, cx, cy, ow, cl, fx, fy, fo, fc, we, hi, so, wt, wx, wy, wo, wc, dp, rfl, rfl, V, C⟩ := I
  unfold wpX_spoil
  refine nm_e (nm_e ?_)
  by_cases h : ∃ a : Nat, a < 6 ∧ v1 = nI a ∧ t a ≠ 0
  · obtain ⟨a, ha, rfl, ta⟩ := h
    have hv : vp_in (nI a) 6 := vp_in_nI ha (by decide)
    have e := nI_clamp (n := a) (by omega)
    refine xl_there_y ha ta (br_f (by decide) ?_)
    refine xl_spn (fun z1 => br_f (by decide) ?_) (fun z1 => br_t rfl ?_)
    · refine xl_spn (fun z2 => br_f (by decide) ?_) (fun z2 => br_t rfl ?_)
      · refine xl_spn (fun z3 => br_f (by decide) ?_) (fun z3 => br_t rfl ?_)
        · obtain ⟨q, hq, rfl⟩ := ds_w1 z3.1 (Int32.not_lt.mp z3.2)
          have c5 := C.1 a ha ta
          have bx := ds_cs_5 V.2.2.1 V.2.1 ha
          have b_y := ds_cs_5 V.2.2.2.1 V.2.1 ha
          have z1' := z1
          have z2' := z2
          rw [Int32.lt_iff_toInt_lt, Int32.lt_iff_toInt_lt, ds_i0, ds_15] at z1' z2'
          have eL : (ds_cs dx p 5 a 0 + v2).toInt = (ds_cs dx p 5 a 0).toInt + v2.toInt := ds_add (by omega) (by omega)
          have eU : (ds_cs dy p 5 a 0 + v3).toInt = (ds_cs dy p 5 a 0).toInt + v3.toInt := ds_add (by omega) (by omega)
          refine ⟨hv, nm_r (e' := ds_cs dx p 5 a 0 + v2) (by rw [e, c5.1]) ⟨hv, nm_r (e' := ds_cs dy p 5 a 0 + v3) (by rw [e, c5.2]) ⟨q % 16 + 1, ?_⟩⟩⟩
          rw [ds_w2 hq, ds_w3 hq]
          have b0 : ds_sp ow (nI a) (ds_bf ((ds_cs dx p 5 a 0).toInt + v2.toInt) ((ds_cs dy p 5 a 0).toInt + v3.toInt) (q / 16) 0 0) cl = cl := ds_sp_0 (fun j _ => ds_bf_0 j)
          have hX := fun post N K hs => xl_sp71 (post := post) (T := T) (B := B) (t := t) (p := p) (dx := dx) (dy := dy) (wd := wd) (hg := hg) (sh := sh) (lv := lv) (cx := cx) (cy := cy) (ow := ow) (cl := cl) (fx := fx) (fy := fy) (fo := fo) (fc := fc) (z := nI a) (W := q / 16) (V := q % 16) (N := N) eL eU (by omega) (by omega) (by omega) (by omega) (by omega) (by omega) K (q % 16) 0 (q % 16 + 1) 0 (by omega) (by omega) hs
          rw [b0] at hX
          refine hX _ (ds_ct (ds_nz cl) 120) (fun s hs => ?_) (by omega)
          unfold wpY_spoil
          refine yl_miss_n ha ta (br_t rfl ?_)
          refine br_f z1.1 (br_f z1.2 (br_f z2.1 (br_f z2.2 (br_f (nI_pos (by omega)) (br_t (nI_le (b := 255) (by omega) (by decide)) ?_)))))
          refine yl_cornerX V.2.1 ha (nm_r (e' := ds_cs dx p 5 a 0 + v2) (by rw [ds_cs_6 V.1 V.2.1 ha ta]) ?_)
          refine yl_cornerY V.2.1 ha (nm_r (e' := ds_cs dy p 5 a 0 + v3) (by rw [ds_cs_6 V.1 V.2.1 ha ta]) ⟨121, ?_⟩)
          have y0 : ds_sp ow (nI a) (ds_yb ((ds_cs dx p 5 a 0).toInt + v2.toInt) ((ds_cs dy p 5 a 0).toInt + v3.toInt) (q / 16) (q % 16) 0) cl = cl := ds_sp_0 (fun j _ => by unfold ds_yb; rw [decide_eq_false (Nat.not_lt_zero j), Bool.false_and])
          have hY := fun post N K hs => yl_sp67 (post := post) (T := T) (B := B) (cl := cl) (wt := wt) (wx := wx) (wy := wy) (wo := wo) (wc := wc) (ow := ow) (z := nI a) (W := q / 16) (V := q % 16) (q := q) (N := N) V C.2 eL eU (by omega) (by omega) (by omega) (by omega) hq rfl rfl K 120 0 121 0 (by omega) (by omega) hs
          rw [y0] at hY
          refine hY _ (ds_ct (ds_nz cl) 120) (fun s' hs' => ?_) (by omega)
          refine ⟨?_, ds_mk V C⟩
          rw [show s' = s by omega]
        · unfold wpY_spoil
          refine yl_miss_n ha ta (br_t rfl ?_)
          refine br_f z1.1 (br_f z1.2 (br_f z2.1 (br_f z2.2 (br_c (fun _ => ⟨rfl, ds_mk V C⟩) (fun q0 => br_c (fun q1 => ?_) (fun _ => ⟨rfl, ds_mk V C⟩))))))
          obtain ⟨q, hq, rfl⟩ := nI_of q0
          have q2 := (nI_leI (a := q) (b := 255) hq (by decide)).mp q1
          refine absurd ?_ z3
          rw [ds_w2 (by omega)]
          exact ⟨nI_pos (by omega), nI_nlt (a := 15) (by omega) (by decide)⟩
      · unfold wpY_spoil
        refine yl_miss_n ha ta (br_t rfl ?_)
        exact br_f z1.1 (br_f z1.2 (br_c (fun _ => ⟨rfl, ds_mk V C⟩) (fun q1 => br_c (fun _ => ⟨rfl, ds_mk V C⟩) (fun q2 => absurd ⟨q1, q2⟩ z2))))
    · unfold wpY_spoil
      refine yl_miss_n ha ta (br_t rfl ?_)
      exact br_c (fun _ => ⟨rfl, ds_mk V C⟩) (fun q1 => br_c (fun _ => ⟨rfl, ds_mk V C⟩) (fun q2 => absurd ⟨q1, q2⟩ z1))
  · refine xl_there_n h (br_t rfl ?_)
    unfold wpY_spoil
    exact yl_miss_y h (br_f (by decide) ⟨rfl, ds_mk V C⟩)
end
