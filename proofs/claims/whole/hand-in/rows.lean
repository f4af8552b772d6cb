section
theorem pk_us {f : Nat → Int32} {k : Nat} {x : Int32} : upd f k x k = x := if_pos rfl
theorem pk_un {f : Nat → Int32} {k j : Nat} {x : Int32} (h : j ≠ k) : upd f k x j = f j := if_neg h
theorem pk_sub {a b : Nat} (h : b ≤ a) : nI a - nI b = nI (a - b) := by
  obtain ⟨c, rfl⟩ : ∃ c, a = c + b := ⟨a - b, by omega⟩
  rw [← nI_add, Int32.add_sub_cancel, Nat.add_sub_cancel]
theorem pk_m1 (n : Nat) : nI (n + 1) + (-1) = nI n := by
  rw [← nI_1, Int32.add_assoc, show (1 : Int32) + (-1) = 0 from rfl, Int32.add_zero]
theorem pk_mul (a b : Nat) : nI a * nI b = nI (a * b) := (Int32.ofNat_mul a b).symm
theorem pk_div {a d : Nat} (ha : a < 2 ^ 31) (h0 : 0 < d) (hd : d < 2 ^ 31) : nI a / nI d = nI (a / d) := by
  apply Int32.toInt_inj.mp
  rw [lg_idiv_nonneg (by rw [nI_toInt ha]; omega) (by rw [nI_toInt hd]; omega), nI_toInt ha, nI_toInt hd, nI_toInt (Nat.lt_of_le_of_lt (Nat.div_le_self a d) ha)]
  first | rfl | exact (Int.natCast_ediv _ _).symm
theorem pk_rem {a d : Nat} (ha : a < 2 ^ 31) (h0 : 0 < d) (hd : d < 2 ^ 31) : nI a - nI a / nI d * nI d = nI (a % d) := by
  rw [pk_div ha h0 hd, pk_mul, pk_sub (Nat.div_mul_le_self a d)]
  exact congrArg nI (by have := Nat.div_add_mod' a d; omega)
theorem pk_ix (x : Int32) {n : Nat} (hn : n < 2 ^ 31) : x < 0 ∨ nI n ≤ x ∨ ∃ j : Nat, j < n ∧ x = nI j := by
  by_cases h : x < 0
  · exact Or.inl h
  · obtain ⟨j, hj, rfl⟩ := nI_of h
    by_cases h2 : j < n
    · exact Or.inr (Or.inr ⟨j, h2, rfl⟩)
    · exact Or.inr (Or.inl (nI_le (by omega) hj))
theorem pk_le {x y : Int32} {A B : Prop} (a b : Nat) (f : a ≤ b → A) (g : b < a → B) (hx : x = nI a := by rfl) (hy : y = nI b := by rfl) (ha : a < 2 ^ 31 := by omega) (hb : b < 2 ^ 31 := by omega) : (x ≤ y → A) ∧ (¬ x ≤ y → B) := by
  subst hx hy
  rw [nI_leI ha hb]
  exact ⟨f, fun z => g (by omega)⟩
theorem pk_lt {x y : Int32} {A B : Prop} (a b : Nat) (f : a < b → A) (g : b ≤ a → B) (hx : x = nI a := by rfl) (hy : y = nI b := by rfl) (ha : a < 2 ^ 31 := by omega) (hb : b < 2 ^ 31 := by omega) : (x < y → A) ∧ (¬ x < y → B) := by
  subst hx hy
  rw [nI_ltI ha hb]
  exact ⟨f, fun z => g (by omega)⟩
theorem pk_eq {x y : Int32} {A B : Prop} (a b : Nat) (f : a = b → A) (g : a ≠ b → B) (hx : x = nI a := by rfl) (hy : y = nI b := by rfl) (ha : a < 2 ^ 31 := by omega) (hb : b < 2 ^ 31 := by omega) : (x = y → A) ∧ (¬ x = y → B) := by
  subst hx hy
  rw [nI_eq ha hb]
  exact ⟨f, g⟩
theorem pk_in {x : Int32} (n N : Nat) (h : n < N) (hx : x = nI n := by rfl) (hN : N < 2 ^ 31 := by omega) : vp_in x N := by
  subst hx
  exact vp_in_nI h hN
theorem pk_cl {x : Int32} (n : Nat) (hx : x = nI n := by rfl) (h : n < 2 ^ 31 := by omega) : x.toNatClampNeg = n := by
  subst hx
  exact nI_clamp h
theorem pk_loop {σ : Type} (W : Nat → Nat → σ → Prop) (I : Nat → σ → Prop) (e i0 : Nat) (s : σ) (hi : i0 ≤ e) (h0 : I i0 s) (hx : ∀ n s, I e s → W (n + 1) e s)
    (hs : ∀ n i s, i < e → I i s → (∀ s', I (i + 1) s' → W n (i + 1) s') → W (n + 1) i s) : ∃ n, W n i0 s :=
  ⟨e + 1, loop_i W I e hx hs (e + 1) i0 s hi (by omega) h0⟩
theorem pk_loopD {σ : Type} (W : Nat → Nat → σ → Prop) (I : Nat → σ → Prop) (hx : ∀ n s, I 0 s → W (n + 1) 0 s)
    (hs : ∀ n i s, I (i + 1) s → (∀ s', I i s' → W n i s') → W (n + 1) (i + 1) s) : ∀ (e : Nat) (s : σ), I e s → W (e + 1) e s := by
  intro e
  induction e with
  | zero => exact fun s h => hx 0 s h
  | succ e ih => exact fun s h => hs (e + 1) e s h (fun s' h' => ih s' h')

/-! sums -/
def sf_sum : Nat → (Nat → Nat) → Nat
  | 0, _ => 0
  | n + 1, f => sf_sum n f + f n
theorem sf_sum_c {n : Nat} {f g : Nat → Nat} (h : ∀ i, i < n → f i = g i) : sf_sum n f = sf_sum n g := by
  induction n with
  | zero => rfl
  | succ n ih =>
    show sf_sum n f + f n = sf_sum n g + g n
    rw [ih (fun i hi => h i (by omega)), h n (by omega)]
theorem sf_sum_z {n : Nat} {f : Nat → Nat} (h : ∀ i, i < n → f i = 0) : sf_sum n f = 0 := by
  induction n with
  | zero => rfl
  | succ n ih =>
    show sf_sum n f + f n = 0
    rw [ih (fun i hi => h i (by omega)), h n (by omega)]
theorem sf_sum_one {n : Nat} {f : Nat → Nat} (k : Nat) (hk : k < n) (h : ∀ i, i < n → i ≠ k → f i = 0) : sf_sum n f = f k := by
  induction n with
  | zero => omega
  | succ n ih =>
    show sf_sum n f + f n = f k
    by_cases e : k = n
    · subst e
      rw [sf_sum_z (fun i hi => h i (by omega) (by omega))]
      omega
    · rw [ih (by omega) (fun i hi hn => h i (by omega) hn), h n (by omega) (fun z => e z.symm)]
      omega
theorem sf_sum_mul {n : Nat} (c : Nat) (f : Nat → Nat) : sf_sum n (fun i => c * f i) = c * sf_sum n f := by
  induction n with
  | zero => rfl
  | succ n ih =>
    show sf_sum n (fun i => c * f i) + c * f n = c * (sf_sum n f + f n)
    rw [ih, Nat.mul_add]
theorem sf_sum_add {n : Nat} (f g : Nat → Nat) : sf_sum n (fun i => f i + g i) = sf_sum n f + sf_sum n g := by
  induction n with
  | zero => rfl
  | succ n ih =>
    show sf_sum n (fun i => f i + g i) + (f n + g n) = sf_sum n f + f n + (sf_sum n g + g n)
    rw [ih]
    omega
theorem sf_sum_comm {n m : Nat} (f : Nat → Nat → Nat) : sf_sum n (fun i => sf_sum m (fun j => f i j)) = sf_sum m (fun j => sf_sum n (fun i => f i j)) := by
  induction n with
  | zero => exact (sf_sum_z (fun _ _ => rfl)).symm
  | succ n ih =>
    show sf_sum n (fun i => sf_sum m (fun j => f i j)) + sf_sum m (fun j => f n j) = sf_sum m (fun j => sf_sum n (fun i => f i j) + f n j)
    rw [ih, sf_sum_add]
theorem sf_am {a b c d : Nat} (h : a % 10007 = b % 10007) (h2 : c % 10007 = d % 10007) : (a + c) % 10007 = (b + d) % 10007 := by omega
theorem sf_sum_mod {n : Nat} {f g : Nat → Nat} (h : ∀ i, i < n → f i % 10007 = g i % 10007) : sf_sum n f % 10007 = sf_sum n g % 10007 := by
  induction n with
  | zero => rfl
  | succ n ih => exact sf_am (ih (fun i hi => h i (by omega))) (h n (by omega))
theorem sf_sum_ne {n : Nat} {f : Nat → Nat} (h : sf_sum n f ≠ 0) : ∃ i, i < n ∧ f i ≠ 0 := by
  by_cases e : ∃ i, i < n ∧ f i ≠ 0
  · exact e
  · exact absurd (sf_sum_z (fun i hi => by
      by_cases z : f i = 0
      · exact z
      · exact absurd ⟨i, hi, z⟩ e)) h
theorem sf_sum_shift (s n : Nat) (g : Nat → Nat) : sf_sum (s + n) (fun i => if s ≤ i then g (i - s) else 0) = sf_sum n g := by
  induction n with
  | zero => exact sf_sum_z (fun i hi => if_neg (by omega))
  | succ n ih =>
    show sf_sum (s + n) (fun i => if s ≤ i then g (i - s) else 0) + (if s ≤ s + n then g (s + n - s) else 0) = sf_sum n g + g n
    rw [ih, if_pos (by omega), Nat.add_sub_cancel_left]
theorem sf_sum_cut {n m : Nat} (g : Nat → Nat) (h : m < n) : sf_sum n (fun i => if i ≤ m then g i else 0) = sf_sum (m + 1) g := by
  induction n with
  | zero => omega
  | succ n ih =>
    show sf_sum n (fun i => if i ≤ m then g i else 0) + (if n ≤ m then g n else 0) = sf_sum (m + 1) g
    by_cases e : m = n
    · subst e
      rw [if_pos (Nat.le_refl _)]
      show _ = sf_sum m g + g m
      rw [sf_sum_c (g := g) (fun i hi => if_pos (by omega))]
    · rw [if_neg (by omega), ih (by omega)]
      rfl
/-! the triples -/
def sf_sz (t : Nat) : Nat := t / 49 + t / 7 % 7 + t % 7
def sf_ex (s t : Nat) : Nat := if s = 0 then t / 49 else if s = 1 then t / 7 % 7 else t % 7
def sf_un (s : Nat) : Nat := if s = 0 then 49 else if s = 1 then 7 else 1
def sf_rk : Nat → Nat
  | 0 => 0
  | t + 1 => if sf_sz t ≤ 6 then sf_rk t + 1 else sf_rk t
def sf_tl : List Nat := [0, 1, 2, 3, 4, 5, 6, 7, 8, 9, 10, 11, 12, 14, 15, 16, 17, 18, 21, 22, 23, 24, 28, 29, 30, 35, 36, 42, 49, 50, 51, 52, 53, 54, 56, 57, 58, 59, 60, 63, 64, 65, 66, 70, 71, 72, 77, 78, 84, 98, 99, 100, 101, 102, 105, 106, 107, 108, 112, 113, 114, 119, 120, 126, 147, 148, 149, 150, 154, 155, 156, 161, 162, 168, 196, 197, 198, 203, 204, 210, 245, 246, 252, 294]
def sf_tri (i : Nat) : Nat := sf_tl.getD i 0
theorem sf_rk_ok : ∀ t, t < 343 → sf_sz t ≤ 6 → sf_rk t < 84 ∧ sf_tri (sf_rk t) = t := by decide +kernel
theorem sf_tri_ok : ∀ i, i < 84 → sf_tri i < 343 ∧ sf_sz (sf_tri i) ≤ 6 ∧ sf_rk (sf_tri i) = i := by decide +kernel
theorem sf_rk_le : ∀ t, t < 344 → sf_rk t ≤ 84 := by decide +kernel
theorem sf_rk_343 : sf_rk 343 = 84 := by decide +kernel
theorem sf_ex_ok : ∀ s, s < 3 → ∀ t, t < 343 → sf_ex s t < 7 ∧ sf_ex s t ≤ sf_sz t ∧ sf_ex s t * sf_un s ≤ t := by decide +kernel
theorem sf_ex_sub : ∀ s, s < 3 → ∀ t, t < 343 → sf_sz (t - sf_ex s t * sf_un s) = sf_sz t - sf_ex s t := by decide +kernel
theorem sf_ex_dv : ∀ s, s < 3 → ∀ t, t < 343 → 0 < sf_ex s t → sf_un s ≤ t ∧ sf_sz (t - sf_un s) + 1 = sf_sz t := by decide +kernel
theorem sf_ex_dw : ∀ s, s < 3 → ∀ t, t < 343 → sf_sz t ≤ 5 → t + sf_un s < 343 ∧ sf_sz (t + sf_un s) = sf_sz t + 1 := by decide +kernel
theorem sf_un_ok : ∀ s, s < 3 → sf_un s < 50 ∧ 0 < sf_un s ∧ sf_sz (sf_un s) = 1 := by decide +kernel
theorem sf_sz_le : ∀ t, t < 343 → sf_sz t < 19 := by decide +kernel
theorem sf_dig {p q r : Nat} (hp : p < 7) (hq : q < 7) (hr : r < 7) : sf_sz (49 * p + 7 * q + r) = p + q + r := by
  unfold sf_sz
  omega
theorem sf_dg {t : Nat} (h : t < 343) : ∃ p q r, p < 7 ∧ q < 7 ∧ r < 7 ∧ t = 49 * p + 7 * q + r := ⟨t / 49, t / 7 % 7, t % 7, by omega, by omega, by omega, by omega⟩
theorem sf_carry {i j : Nat} (hi : i < 343) (hj : j < 343) (h : sf_sz i + sf_sz j ≤ 6) : i + j < 343 ∧ sf_sz (i + j) = sf_sz i + sf_sz j := by
  obtain ⟨p, q, r, hp, hq, hr, rfl⟩ := sf_dg hi
  obtain ⟨p', q', r', hp', hq', hr', rfl⟩ := sf_dg hj
  rw [sf_dig hp hq hr, sf_dig hp' hq' hr'] at h
  rw [sf_dig hp hq hr, sf_dig hp' hq' hr']
  have e : 49 * p + 7 * q + r + (49 * p' + 7 * q' + r') = 49 * (p + p') + 7 * (q + q') + (r + r') := by omega
  rw [e, sf_dig (by omega) (by omega) (by omega)]
  omega
theorem sf_sum_re (g : Nat → Nat) : ∀ n, n ≤ 343 → sf_sum n (fun t => if sf_sz t ≤ 6 then g t else 0) = sf_sum (sf_rk n) (fun b => g (sf_tri b)) := by
  intro n
  induction n with
  | zero => intro _; rfl
  | succ n ih =>
    intro hn
    show sf_sum n (fun t => if sf_sz t ≤ 6 then g t else 0) + (if sf_sz n ≤ 6 then g n else 0) = sf_sum (if sf_sz n ≤ 6 then sf_rk n + 1 else sf_rk n) (fun b => g (sf_tri b))
    by_cases h : sf_sz n ≤ 6
    · rw [if_pos h, if_pos h, ih (by omega)]
      show _ = sf_sum (sf_rk n) (fun b => g (sf_tri b)) + g (sf_tri (sf_rk n))
      rw [(sf_rk_ok n (by omega) h).2]
    · rw [if_neg h, if_neg h, ih (by omega)]
      rfl
theorem sf_sum_re2 (g : Nat → Nat) (hz : ∀ t, t < 343 → 6 < sf_sz t → g t = 0) : sf_sum 84 (fun b => g (sf_tri b)) = sf_sum 343 g := by
  have h := sf_sum_re g 343 (by omega)
  rw [sf_rk_343] at h
  rw [← h]
  exact sf_sum_c (fun t ht => by
    by_cases z : sf_sz t ≤ 6
    · exact if_pos z
    · rw [if_neg z, hz t ht (by omega)])
end
section
def sf_Sup (d : Nat) (f : Nat → Nat) : Prop := ∀ t, t < 343 → f t ≠ 0 → sf_sz t ≤ d
def sf_B (f : Nat → Nat) : Prop := ∀ t, t < 343 → f t < 10007
def sf_pm (x y : Nat → Nat) (m : Nat) : Nat := sf_sum (m + 1) (fun i => x i * y (m - i)) % 10007
def sf_one (m : Nat) : Nat := if m = 0 then 1 else 0
def sf_pw (y : Nat → Nat) : Nat → Nat → Nat
  | 0 => sf_one
  | k + 1 => sf_pm (sf_pw y k) y
def sf_sc (c s : Nat) (g : Nat → Nat) (m : Nat) : Nat := if s ≤ m then c * g (m - s) % 10007 else 0
theorem sf_Sup_z {d : Nat} {f : Nat → Nat} (h : sf_Sup d f) {t : Nat} (ht : t < 343) (hd : d < sf_sz t) : f t = 0 := by
  by_cases z : f t = 0
  · exact z
  · have := h t ht z
    omega
theorem sf_Sup_w {d e : Nat} {f : Nat → Nat} (h : sf_Sup d f) (hd : d ≤ e) : sf_Sup e f := fun t ht z => Nat.le_trans (h t ht z) hd
theorem sf_mlt (a : Nat) : a % 10007 < 10007 := Nat.mod_lt _ (by decide)
theorem sf_pm_B (x y : Nat → Nat) : sf_B (sf_pm x y) := fun _ _ => sf_mlt _
theorem sf_one_B : sf_B sf_one := by
  intro t _
  unfold sf_one
  split <;> omega
theorem sf_pw_B (y : Nat → Nat) (k : Nat) : sf_B (sf_pw y k) := by
  cases k with
  | zero => exact sf_one_B
  | succ k => exact sf_pm_B _ _
theorem sf_sc_B (c s : Nat) (g : Nat → Nat) : sf_B (sf_sc c s g) := by
  intro t _
  unfold sf_sc
  split
  · exact sf_mlt _
  · omega
theorem sf_pm_x (x y : Nat → Nat) {m : Nat} (h : m < 343) : sf_sum 343 (fun i => if i ≤ m then x i * y (m - i) else 0) % 10007 = sf_pm x y m := by
  rw [sf_sum_cut (fun i => x i * y (m - i)) h]
  rfl
def sf_Q (x y : Nat → Nat) (i j m : Nat) : Nat := if sf_sz i + sf_sz j ≤ 6 ∧ i + j = m then x i * y j else 0
theorem sf_Q_row {x y : Nat → Nat} {dx dy : Nat} (hx : sf_Sup dx x) (hy : sf_Sup dy y) (hd : dx + dy ≤ 6) {i m : Nat} (hi : i < 343) (hm : m < 343) :
    sf_sum 84 (fun b => sf_Q x y i (sf_tri b) m) = if i ≤ m then x i * y (m - i) else 0 := by
  rw [sf_sum_re2 (fun j => sf_Q x y i j m) (fun t _ hz => if_neg (by omega))]
  by_cases h : i ≤ m
  · rw [if_pos h, sf_sum_one (n := 343) (f := fun j => sf_Q x y i j m) (m - i) (by omega) (fun j _ hn => if_neg (by omega))]
    unfold sf_Q
    by_cases z : x i * y (m - i) = 0
    · rw [z]
      split <;> rfl
    · have h1 : x i ≠ 0 := fun e => z (by rw [e, Nat.zero_mul])
      have h2 : y (m - i) ≠ 0 := fun e => z (by rw [e, Nat.mul_zero])
      have h3 := hx i hi h1
      have h4 := hy (m - i) (by omega) h2
      exact if_pos ⟨by omega, by omega⟩
  · rw [if_neg h]
    exact sf_sum_z (fun j _ => if_neg (by omega))
theorem sf_pm_y {x y : Nat → Nat} {dx dy : Nat} (hx : sf_Sup dx x) (hy : sf_Sup dy y) (hd : dx + dy ≤ 6) {m : Nat} (hm : m < 343) :
    sf_sum 84 (fun a => sf_sum 84 (fun b => sf_Q x y (sf_tri a) (sf_tri b) m)) % 10007 = sf_pm x y m := by
  rw [← sf_pm_x x y hm, sf_sum_c (fun a ha => sf_Q_row hx hy hd (sf_tri_ok a ha).1 hm), sf_sum_re2 (fun i => if i ≤ m then x i * y (m - i) else 0)]
  intro t ht hz
  rw [sf_Sup_z hx ht (by omega), Nat.zero_mul]
  split <;> rfl
theorem sf_pm_sup {x y : Nat → Nat} {dx dy : Nat} (hx : sf_Sup dx x) (hy : sf_Sup dy y) (hd : dx + dy ≤ 6) : sf_Sup (dx + dy) (sf_pm x y) := by
  intro m hm hne
  have h : sf_sum (m + 1) (fun i => x i * y (m - i)) ≠ 0 := fun e => hne (by unfold sf_pm; rw [e])
  obtain ⟨i, hi, z⟩ := sf_sum_ne h
  have h1 : x i ≠ 0 := fun e => z (by rw [e, Nat.zero_mul])
  have h2 : y (m - i) ≠ 0 := fun e => z (by rw [e, Nat.mul_zero])
  have h3 := hx i (by omega) h1
  have h4 := hy (m - i) (by omega) h2
  have h5 := (sf_carry (i := i) (j := m - i) (by omega) (by omega) (by omega)).2
  rw [show i + (m - i) = m by omega] at h5
  omega
theorem sf_one_sup : sf_Sup 0 sf_one := by
  intro t ht hne
  unfold sf_one at hne
  by_cases h : t = 0
  · subst h
    decide
  · rw [if_neg h] at hne
    omega
theorem sf_pw_sup {y : Nat → Nat} {d : Nat} (hy : sf_Sup d y) : ∀ k, k * d ≤ 6 → sf_Sup (k * d) (sf_pw y k) := by
  intro k
  induction k with
  | zero =>
    intro _
    rw [Nat.zero_mul]
    exact sf_one_sup
  | succ k ih =>
    intro h
    rw [Nat.succ_mul] at h ⊢
    exact sf_pm_sup (ih (by omega)) hy h
theorem sf_sc_sup {g : Nat → Nat} {c s d : Nat} (hg : sf_Sup d g) (hs : s < 343) (h : sf_sz s + d ≤ 6) : sf_Sup (sf_sz s + d) (sf_sc c s g) := by
  intro m hm hne
  unfold sf_sc at hne
  by_cases e : s ≤ m
  · rw [if_pos e] at hne
    have h2 : g (m - s) ≠ 0 := fun z => hne (by rw [z, Nat.mul_zero])
    have h4 := hg (m - s) (by omega) h2
    have h5 := (sf_carry (i := s) (j := m - s) hs (by omega) (by omega)).2
    rw [show s + (m - s) = m by omega] at h5
    omega
  · rw [if_neg e] at hne
    omega
theorem sf_sc_one {c s : Nat} (hc : c < 10007) (m : Nat) : sf_sc c s sf_one m = if m = s then c else 0 := by
  unfold sf_sc sf_one
  by_cases e : m = s
  · subst e
    rw [if_pos (Nat.le_refl _), if_pos rfl, if_pos (Nat.sub_self _), Nat.mul_one]
    exact Nat.mod_eq_of_lt hc
  · rw [if_neg e]
    by_cases h : s ≤ m
    · rw [if_pos h, if_neg (by omega), Nat.mul_zero]
    · rw [if_neg h]
theorem sf_mm (a b : Nat) : a % 10007 * b % 10007 = a * b % 10007 := by
  rw [Nat.mul_mod, Nat.mod_mod, ← Nat.mul_mod]
theorem sf_mm2 (a b : Nat) : a * (b % 10007) % 10007 = a * b % 10007 := by
  rw [Nat.mul_mod, Nat.mod_mod, ← Nat.mul_mod]
theorem sf_pm_sc (c s : Nat) (g y : Nat → Nat) (m : Nat) : sf_pm (sf_sc c s g) y m = sf_sc c s (sf_pm g y) m := by
  unfold sf_pm
  by_cases h : s ≤ m
  · rw [show m + 1 = s + (m - s + 1) by omega]
    rw [sf_sum_c (g := fun i => if s ≤ i then (fun j => c * g j % 10007 * y (m - s - j)) (i - s) else 0)]
    · rw [sf_sum_shift s (m - s + 1) (fun j => c * g j % 10007 * y (m - s - j)), sf_sum_mod (g := fun j => c * (g j * y (m - s - j)))]
      · rw [sf_sum_mul]
        unfold sf_sc
        rw [if_pos h, sf_mm2]
      · intro j _
        rw [sf_mm, Nat.mul_assoc]
    · intro i hi
      unfold sf_sc
      by_cases e : s ≤ i
      · rw [if_pos e, if_pos e]
        dsimp only
        rw [show m - s - (i - s) = m - i by omega]
      · rw [if_neg e, if_neg e, Nat.zero_mul]
  · rw [sf_sum_z]
    · unfold sf_sc
      rw [if_neg h]
    · intro i hi
      unfold sf_sc
      rw [if_neg (by omega), Nat.zero_mul]
/-! the highest weight plus one of a term that isn't 0 -/
def sf_hx (f w : Nat → Nat) : Nat → Nat
  | 0 => 0
  | n + 1 => if f n = 0 then sf_hx f w n else if w n + 1 ≤ sf_hx f w n then sf_hx f w n else w n + 1
theorem sf_hx_ge {f w : Nat → Nat} : ∀ n t, t < n → f t ≠ 0 → w t + 1 ≤ sf_hx f w n := by
  intro n
  induction n with
  | zero => intro t h; omega
  | succ n ih =>
    intro t ht hz
    show _ ≤ if f n = 0 then sf_hx f w n else if w n + 1 ≤ sf_hx f w n then sf_hx f w n else w n + 1
    by_cases e : t = n
    · subst e
      rw [if_neg hz]
      split <;> omega
    · have h1 := ih t (by omega) hz
      split
      · exact h1
      · split <;> omega
theorem sf_hx_le {f w : Nat → Nat} {b : Nat} : ∀ n, (∀ t, t < n → f t ≠ 0 → w t + 1 ≤ b) → sf_hx f w n ≤ b := by
  intro n
  induction n with
  | zero => intro _; exact Nat.zero_le _
  | succ n ih =>
    intro h
    show (if f n = 0 then sf_hx f w n else if w n + 1 ≤ sf_hx f w n then sf_hx f w n else w n + 1) ≤ b
    have h1 := ih (fun t ht => h t (by omega))
    split
    · exact h1
    · rename_i z
      have h2 := h n (by omega) z
      split <;> omega
theorem sf_hx_re (f w : Nat → Nat) (hz : sf_Sup 6 f) : ∀ n, n ≤ 343 → sf_hx (fun i => f (sf_tri i)) (fun i => w (sf_tri i)) (sf_rk n) = sf_hx f w n := by
  intro n
  induction n with
  | zero => intro _; rfl
  | succ n ih =>
    intro hn
    show sf_hx _ _ (if sf_sz n ≤ 6 then sf_rk n + 1 else sf_rk n) = if f n = 0 then sf_hx f w n else if w n + 1 ≤ sf_hx f w n then sf_hx f w n else w n + 1
    by_cases h : sf_sz n ≤ 6
    · rw [if_pos h]
      show (if f (sf_tri (sf_rk n)) = 0 then sf_hx (fun i => f (sf_tri i)) (fun i => w (sf_tri i)) (sf_rk n) else if w (sf_tri (sf_rk n)) + 1 ≤ sf_hx (fun i => f (sf_tri i)) (fun i => w (sf_tri i)) (sf_rk n) then sf_hx (fun i => f (sf_tri i)) (fun i => w (sf_tri i)) (sf_rk n) else w (sf_tri (sf_rk n)) + 1) = _
      rw [(sf_rk_ok n (by omega) h).2, ih (by omega)]
    · rw [if_neg h, if_pos (sf_Sup_z hz (by omega) (by omega)), ih (by omega)]
theorem sf_hx_re2 (f w : Nat → Nat) (hz : sf_Sup 6 f) : sf_hx (fun i => f (sf_tri i)) (fun i => w (sf_tri i)) 84 = sf_hx f w 343 := by
  have h := sf_hx_re f w hz 343 (by omega)
  rw [sf_rk_343] at h
  exact h
theorem sf_hx_sup (f : Nat → Nat) : sf_Sup (sf_hx f sf_sz 343 - 1) f := fun t ht z => by
  have := sf_hx_ge (w := sf_sz) 343 t ht z
  omega
theorem sf_hx_7 {f : Nat → Nat} (hz : sf_Sup 6 f) : sf_hx f sf_sz 343 ≤ 7 := sf_hx_le 343 (fun t ht z => by
  have := hz t ht z
  omega)
theorem sf_hxe_7 {f : Nat → Nat} {s : Nat} (hs : s < 3) : sf_hx f (sf_ex s) 343 ≤ 7 := sf_hx_le 343 (fun t ht z => by
  have := (sf_ex_ok s hs t ht).1
  omega)
/-! substitution -/
def sf_A (x y : Nat → Nat) (s e t m : Nat) : Nat := if sf_ex s t = e then (if t - e * sf_un s ≤ m then x t * sf_pw y e (m - (t - e * sf_un s)) else 0) else 0
def sf_T (x y : Nat → Nat) (s t m : Nat) : Nat := sf_sc (x t) (t - sf_ex s t * sf_un s) (sf_pw y (sf_ex s t)) m
def sf_sb (x y : Nat → Nat) (s m : Nat) : Nat := sf_sum 343 (fun t => sf_T x y s t m) % 10007
theorem sf_T_z {x y : Nat → Nat} {s t m : Nat} (h : x t = 0) : sf_T x y s t m = 0 := by
  unfold sf_T sf_sc
  rw [h, Nat.zero_mul]
  split <;> rfl
theorem sf_A_z {x y : Nat → Nat} {s e t m : Nat} (h : x t = 0) : sf_A x y s e t m = 0 := by
  unfold sf_A
  rw [h, Nat.zero_mul]
  split
  · split <;> rfl
  · rfl
theorem sf_sb_x {x y : Nat → Nat} {s h : Nat} (hh : ∀ t, t < 343 → x t ≠ 0 → sf_ex s t + 1 ≤ h) (m : Nat) :
    sf_sum h (fun e => sf_sum 343 (fun t => sf_A x y s e t m)) % 10007 = sf_sb x y s m := by
  rw [sf_sum_comm]
  apply sf_sum_mod
  intro t ht
  by_cases z : x t = 0
  · rw [sf_T_z z, sf_sum_z (fun e _ => sf_A_z z)]
  · have h1 := hh t ht z
    rw [sf_sum_one (n := h) (f := fun i => sf_A x y s i t m) (sf_ex s t) (by omega) (fun e _ hn => if_neg (fun q : sf_ex s t = e => hn q.symm))]
    unfold sf_A sf_T sf_sc
    rw [if_pos rfl]
    split
    · exact (Nat.mod_mod _ _).symm
    · rfl
theorem sf_sb_y {x y : Nat → Nat} {s : Nat} (hx : sf_Sup 6 x) (m : Nat) :
    sf_sum 84 (fun i => sf_T x y s (sf_tri i) m) % 10007 = sf_sb x y s m := by
  rw [sf_sum_re2 (fun t => sf_T x y s t m) (fun t ht hz => sf_T_z (sf_Sup_z hx ht hz))]
  rfl
theorem sf_sb_sup {x y : Nat → Nat} {s d : Nat} (hs : s < 3) (hy : sf_Sup d y) (hd : ∀ t, t < 343 → x t ≠ 0 → sf_sz t - sf_ex s t + sf_ex s t * d ≤ 6) : sf_Sup 6 (sf_sb x y s) := by
  intro m hm hne
  have h : sf_sum 343 (fun t => sf_T x y s t m) ≠ 0 := fun e => hne (by unfold sf_sb; rw [e])
  obtain ⟨t, ht, z⟩ := sf_sum_ne h
  have hx : x t ≠ 0 := fun e => z (sf_T_z e)
  have h1 := hd t ht hx
  have h2 := sf_ex_sub s hs t ht
  have h3 := sf_sc_sup (c := x t) (s := t - sf_ex s t * sf_un s) (sf_pw_sup hy (sf_ex s t) (by omega)) (by omega) (by omega) m hm z
  omega
theorem sf_sb_B (x y : Nat → Nat) (s : Nat) : sf_B (sf_sb x y s) := fun _ _ => sf_mlt _
end
section
/-! X: the arrays as slots -/
def sf_HX (a : Nat → Int32) (s : Nat) (f : Nat → Nat) : Prop := ∀ t, t < 343 → a (s * 343 + t) = nI (f t)
def sf_FX (s : Nat) (a a' : Nat → Int32) : Prop := ∀ s', s' ≠ s → ∀ t, t < 343 → a' (s' * 343 + t) = a (s' * 343 + t)
def sf_F2 (s z : Nat) (a a' : Nat → Int32) : Prop := ∀ s', s' ≠ s → s' ≠ z → ∀ t, t < 343 → a' (s' * 343 + t) = a (s' * 343 + t)
def sf_KX (c : Nat) (a a' : Nat → Int32) : Prop := ∀ s', s' < c → ∀ t, t < 343 → a' (s' * 343 + t) = a (s' * 343 + t)
theorem sf_HX_f {a a' : Nat → Int32} {s s' : Nat} {f : Nat → Nat} (h : sf_HX a s' f) (F : sf_FX s a a') (hn : s' ≠ s) : sf_HX a' s' f := fun t ht => (F s' hn t ht).trans (h t ht)
theorem sf_HX_2 {a a' : Nat → Int32} {s z s' : Nat} {f : Nat → Nat} (h : sf_HX a s' f) (F : sf_F2 s z a a') (hn : s' ≠ s) (hz : s' ≠ z) : sf_HX a' s' f := fun t ht => (F s' hn hz t ht).trans (h t ht)
theorem sf_HX_k {a a' : Nat → Int32} {c s' : Nat} {f : Nat → Nat} (h : sf_HX a s' f) (F : sf_KX c a a') (hn : s' < c) : sf_HX a' s' f := fun t ht => (F s' hn t ht).trans (h t ht)
theorem sf_FX_r {s : Nat} {a : Nat → Int32} : sf_FX s a a := fun _ _ _ _ => rfl
theorem sf_FX_t {s : Nat} {a b c : Nat → Int32} (h : sf_FX s a b) (k : sf_FX s b c) : sf_FX s a c := fun s' hn t ht => (k s' hn t ht).trans (h s' hn t ht)
theorem sf_FX_u {s t : Nat} {a : Nat → Int32} {v : Int32} (ht : t < 343) : sf_FX s a (upd a (s * 343 + t) v) := fun s' hn t' ht' => pk_un (by omega)
theorem sf_HX_c {a : Nat → Int32} {s : Nat} {f g : Nat → Nat} (h : sf_HX a s f) (e : ∀ t, t < 343 → f t = g t) : sf_HX a s g := fun t ht => (h t ht).trans (congrArg nI (e t ht))
theorem sf_ix (s t : Nat) : nI s * 343 + nI t = nI (s * 343 + t) := by
  rw [show (343 : Int32) = nI 343 from rfl, pk_mul, nI_add]
theorem sf_inX {s t : Nat} (hs : s < 18) (ht : t < 343) : vp_in (nI s * 343 + nI t) 6174 := by
  rw [sf_ix]
  exact vp_in_nI (by omega) (by decide)
theorem sf_clX {s t : Nat} (hs : s < 18) (ht : t < 343) : (nI s * 343 + nI t).toNatClampNeg = s * 343 + t := by
  rw [sf_ix]
  exact nI_clamp (by omega)
theorem sf_rdX {a : Nat → Int32} {s t : Nat} {f : Nat → Nat} (H : sf_HX a s f) (hs : s < 18) (ht : t < 343) : a (nI s * 343 + nI t).toNatClampNeg = nI (f t) := by
  rw [sf_clX hs ht]
  exact H t ht
theorem sf_mod {a : Nat} (h : a < 2 ^ 31) : nI a - nI a / 10007 * 10007 = nI (a % 10007) := pk_rem h (by decide) (by decide)
theorem sf_ml {a b : Nat} (ha : a < 10007) (hb : b < 10007) : a * b ≤ 100120036 := Nat.mul_le_mul (show a ≤ 10006 by omega) (show b ≤ 10006 by omega)
theorem sf_mac {a k l : Nat} (ha : a < 10007) (hk : k < 10007) (hl : l < 10007) : (nI a + nI k * nI l) - (nI a + nI k * nI l) / 10007 * 10007 = nI ((a + k * l) % 10007) := by
  have := sf_ml hk hl
  rw [pk_mul, nI_add, sf_mod (by omega)]
theorem sf_mu {k l : Nat} (hk : k < 10007) (hl : l < 10007) : (nI k * nI l) - (nI k * nI l) / 10007 * 10007 = nI (k * l % 10007) := by
  have := sf_ml hk hl
  rw [pk_mul, sf_mod (by omega)]
theorem sf_upd_at {b : Nat → Int32} {q q' : Nat} {v v' : Int32} (h : q = q') (hv : v = v') : upd b q v = upd b q' v' := by rw [h, hv]
theorem sf_7 : ¬ (10007 : Int32) = 0 := by decide
theorem sf_le343 : (343 : Int32) ≤ nI 343 := nI_le (a := 343) (b := 343) (Nat.le_refl _) (by decide)
theorem sf_nle343 {i : Nat} (h : i < 343) : ¬ (343 : Int32) ≤ nI i := nI_ge (a := i) (b := 343) h (by decide)
theorem sf_x0 {post : SX → Prop} {fc : Int32} {a : Nat → Int32} {s : Nat} (hs : s < 18) (h : ∀ a', sf_HX a' s (fun _ => 0) → sf_FX s a a' → post (fc, a')) : wpX_setToZero post (fc, a) (nI s) := by
  refine loop_0 (fun n i (b : Nat → Int32) => wX_setToZero_2 post (nI s) fc n (nI i) b) (fun i b => (∀ t, t < i → b (s * 343 + t) = nI 0) ∧ sf_FX s a b) 343 a ⟨fun t ht => absurd ht (Nat.not_lt_zero t), sf_FX_r⟩ ?_ ?_
  · intro n b I
    exact br_t sf_le343 (h b I.1 I.2)
  · intro n i b hi I hk
    refine br_f (sf_nle343 hi) ⟨sf_inX hs hi, nm_r (sf_upd_at (sf_clX hs hi) rfl) (nm_r (nI_1 i) (hk _ ⟨fun t ht => ?_, sf_FX_t I.2 (sf_FX_u hi)⟩))⟩
    by_cases e : t = i
    · subst e
      exact pk_us
    · rw [pk_un (by omega)]
      exact I.1 t (by omega)
theorem sf_xT {post : SX → Prop} {fc : Int32} {a : Nat → Int32} {s c t : Nat} (hs : s < 18) (ht : t < 343) (h : ∀ a', sf_HX a' s (fun m => if m = t then c else 0) → sf_FX s a a' → post (fc, a')) : wpX_setToTerm post (fc, a) (nI s) (nI c) (nI t) := by
  unfold wpX_setToTerm
  refine sf_x0 hs (fun b H F => ?_)
  refine ⟨sf_inX hs ht, nm_r (sf_upd_at (sf_clX hs ht) rfl) (h _ (fun m hm => ?_) (sf_FX_t F (sf_FX_u ht)))⟩
  by_cases e : m = t
  · subst e
    rw [pk_us]
    exact (congrArg nI (if_pos rfl)).symm
  · rw [pk_un (by omega)]
    exact (H m hm).trans (congrArg nI (if_neg e).symm)
theorem sf_xM {post : SX → Prop} {fc : Int32} {a : Nat → Int32} {tg sr k sh : Nat} {S : Int32} {f g : Nat → Nat} (htg : tg < 18) (hsr : sr < 18) (hne : sr ≠ tg) (hk : k < 10007) (hsh : sh ≤ 343) (eS : S = nI sh)
    (Hf : sf_HX a tg f) (Hg : sf_HX a sr g) (Bf : sf_B f) (Bg : sf_B g)
    (h : ∀ a', sf_HX a' tg (fun m => (f m + (if sh ≤ m then k * g (m - sh) else 0)) % 10007) → sf_FX tg a a' → post (fc, a')) : wpX_addMultiple post (fc, a) (nI tg) (nI sr) (nI k) S := by
  subst eS
  have e343 : (343 : Int32) - nI sh = nI (343 - sh) := pk_sub (a := 343) hsh
  refine loop_0 (fun n i (b : Nat → Int32) => wX_addMultiple_3 post (nI tg) (nI sr) (nI k) (nI sh) fc n (nI i) b)
    (fun i b => sf_HX b tg (fun m => if sh ≤ m ∧ m < sh + i then (f m + k * g (m - sh)) % 10007 else f m) ∧ sf_FX tg a b) (343 - sh) a ⟨sf_HX_c Hf (fun t _ => (if_neg (by omega)).symm), sf_FX_r⟩ ?_ ?_
  · intro n b I
    refine br_t (by rw [e343]; exact nI_le (Nat.le_refl _) (by omega)) (h b (sf_HX_c I.1 (fun t ht => ?_)) I.2)
    by_cases e : sh ≤ t
    · rw [if_pos ⟨e, by omega⟩, if_pos e]
    · rw [if_neg (by omega), if_neg e, Nat.add_zero, Nat.mod_eq_of_lt (Bf t ht)]
  · intro n i b hi I hK
    refine br_f (by rw [e343]; exact nI_ge hi (by omega)) ⟨sf_inX hsr (by omega), nm_r (sf_rdX (sf_HX_f Hg I.2 hne) hsr (by omega)) ?_⟩
    have hg := Bg i (by omega)
    refine pk_eq (g i) 0 (fun z => ?_) (fun z => ?_) rfl rfl (by omega) (by omega)
    · refine nm_r (nI_1 i) (hK b ⟨sf_HX_c I.1 (fun t ht => ?_), I.2⟩)
      by_cases e : t = sh + i
      · subst e
        rw [if_neg (by omega), if_pos (by omega), Nat.add_sub_cancel_left, z, Nat.mul_zero, Nat.add_zero, Nat.mod_eq_of_lt (Bf _ ht)]
      · by_cases e2 : sh ≤ t ∧ t < sh + i
        · rw [if_pos e2, if_pos (by omega)]
        · rw [if_neg e2, if_neg (by omega)]
    · have e7 : nI tg * 343 + nI i + nI sh = nI (tg * 343 + (sh + i)) := by
        rw [sf_ix, nI_add]
        exact congrArg nI (by omega)
      have hin : vp_in (nI (tg * 343 + (sh + i))) 6174 := vp_in_nI (by omega) (by decide)
      have hcl : (nI (tg * 343 + (sh + i))).toNatClampNeg = tg * 343 + (sh + i) := nI_clamp (by omega)
      have hrd : b (nI (tg * 343 + (sh + i))).toNatClampNeg = nI (f (sh + i)) := by
        rw [hcl, I.1 (sh + i) (by omega)]
        exact congrArg nI (if_neg (by omega))
      have hv : (b (nI (tg * 343 + (sh + i))).toNatClampNeg + nI k * nI (g i)) - (b (nI (tg * 343 + (sh + i))).toNatClampNeg + nI k * nI (g i)) / 10007 * 10007 = nI ((f (sh + i) + k * g i) % 10007) := by
        rw [hrd]
        exact sf_mac (Bf _ (by omega)) hk hg
      refine nm_r e7 ⟨hin, sf_7, hin, nm_r (sf_upd_at hcl hv) (nm_r (nI_1 i) (hK _ ⟨fun t ht => ?_, sf_FX_t I.2 (sf_FX_u (by omega))⟩))⟩
      by_cases e : t = sh + i
      · subst e
        rw [pk_us]
        dsimp only
        rw [if_pos (by omega), Nat.add_sub_cancel_left]
      · rw [pk_un (by omega), I.1 t ht]
        dsimp only
        by_cases e2 : sh ≤ t ∧ t < sh + i
        · rw [if_pos e2, if_pos (by omega)]
        · rw [if_neg e2, if_neg (by omega)]
/-! exponents -/
theorem sf_d49 {t : Nat} (h : t < 343) : nI t / 49 = nI (t / 49) := pk_div (d := 49) (by omega) (by decide) (by decide)
theorem sf_d7 {t : Nat} (h : t < 343) : nI t / 7 = nI (t / 7) := pk_div (d := 7) (by omega) (by decide) (by decide)
theorem sf_m7 {t : Nat} (h : t < 343) : nI t - nI t / 7 * 7 = nI (t % 7) := pk_rem (d := 7) (by omega) (by decide) (by decide)
theorem sf_q7 {t : Nat} (h : t < 343) : nI t / 7 - nI t / 7 / 7 * 7 = nI (t / 7 % 7) := by
  rw [sf_d7 h]
  exact sf_m7 (by omega)
theorem sf_3 {s : Nat} (h : s < 3) : s = 0 ∨ s = 1 ∨ s = 2 := by omega
theorem sf_n10 : ¬ nI 1 = 0 := by decide
theorem sf_n20 : ¬ nI 2 = 0 := by decide
theorem sf_n21 : ¬ nI 2 = 1 := by decide
theorem sf_e11 : nI 1 = 1 := by decide
theorem sf_xE {post : Int32 → Prop} {s t : Nat} (hs : s < 3) (ht : t < 343) (h : post (nI (sf_ex s t))) : wpX_exponentOf post (nI s) (nI t) := by
  rcases sf_3 hs with rfl | rfl | rfl
  · refine br_t nI_0 ⟨by decide, ?_⟩
    rw [sf_d49 ht]
    exact h
  · refine br_f sf_n10 (br_t sf_e11 ⟨by decide, by decide, ?_⟩)
    rw [sf_q7 ht]
    exact h
  · refine br_f sf_n20 (br_f sf_n21 ⟨by decide, ?_⟩)
    rw [sf_m7 ht]
    exact h
theorem sf_xD {post : Int32 → Prop} {t : Nat} (ht : t < 343) (h : post (nI (sf_sz t))) : wpX_degreeOfTriple post (nI t) := by
  unfold wpX_degreeOfTriple
  refine sf_xE (s := 0) (by decide) ht ?_
  refine sf_xE (s := 1) (by decide) ht ?_
  refine sf_xE (s := 2) (by decide) ht ?_
  rw [nI_add, nI_add]
  exact h
theorem sf_xU {post : Int32 → Prop} {s : Nat} (hs : s < 3) (h : post (nI (sf_un s))) : wpX_tripleOfSymbol post (nI s) := by
  rcases sf_3 hs with rfl | rfl | rfl
  · exact br_t nI_0 h
  · exact br_f sf_n10 (br_t sf_e11 h)
  · exact br_f sf_n20 (br_f sf_n21 h)
/-! the highest degree and exponent -/
def sf_I (h : Nat) : Int32 := nI h + (-1)
theorem sf_I_le : ∀ d, d < 19 → ∀ h, h < 20 → (nI d ≤ sf_I h ↔ d + 1 ≤ h) := by decide +kernel
theorem sf_I_lt : ∀ h, h < 8 → ∀ e, e < 8 → (sf_I h < nI e ↔ h ≤ e) := by decide +kernel
theorem sf_I_s (d : Nat) : sf_I (d + 1) = nI d := pk_m1 d
theorem sf_I_0 : sf_I 0 = -1 := by decide
theorem sf_hx_19 {f : Nat → Nat} {n : Nat} (hn : n ≤ 343) : sf_hx f sf_sz n < 20 := by
  have : sf_hx f sf_sz n ≤ 19 := sf_hx_le n (fun t ht _ => by
    have := sf_sz_le t (by omega)
    omega)
  omega
theorem sf_hxe_19 {f : Nat → Nat} {n s : Nat} (hs : s < 3) (hn : n ≤ 343) : sf_hx f (sf_ex s) n < 20 := by
  have : sf_hx f (sf_ex s) n ≤ 19 := sf_hx_le n (fun t ht _ => by
    have := (sf_ex_ok s hs t (by omega)).1
    omega)
  omega
theorem sf_hx_0 {f w : Nat → Nat} {n : Nat} (h : f n = 0) : sf_hx f w (n + 1) = sf_hx f w n := if_pos h
theorem sf_hx_1 {f w : Nat → Nat} {n : Nat} (h : f n ≠ 0) (h2 : w n + 1 ≤ sf_hx f w n) : sf_hx f w (n + 1) = sf_hx f w n := (if_neg h).trans (if_pos h2)
theorem sf_hx_2 {f w : Nat → Nat} {n : Nat} (h : f n ≠ 0) (h2 : ¬ w n + 1 ≤ sf_hx f w n) : sf_hx f w (n + 1) = w n + 1 := (if_neg h).trans (if_neg h2)
theorem sf_xH {post : Int32 → Prop} {fc : Int32} {a : Nat → Int32} {s : Nat} {f : Nat → Nat} (hs : s < 18) (H : sf_HX a s f) (B : sf_B f) (h : post (sf_I (sf_hx f sf_sz 343))) : wpX_highestDegree post (fc, a) (nI s) := by
  refine loop_0 (fun n i (x : Int32) => wX_highestDegree_4 post (nI s) fc a n x (nI i)) (fun i x => x = sf_I (sf_hx f sf_sz i)) 343 (-1) sf_I_0.symm ?_ ?_
  · intro n x I
    subst I
    exact br_t sf_le343 h
  · intro n i x hi I hk
    subst I
    have ea := sf_rdX H hs hi
    have hf := B i hi
    refine br_f (sf_nle343 hi) ⟨sf_inX hs hi, ?_⟩
    by_cases z : f i = 0
    · refine br_t (by rw [ea, z]; rfl) (nm_r (nI_1 i) (hk _ ?_))
      rw [sf_hx_0 z]
    · refine br_f (by rw [ea]; exact nI_ne0 (by omega) (by omega)) (sf_xD hi ?_)
      have h2 := sf_I_le (sf_sz i) (sf_sz_le i hi) (sf_hx f sf_sz i) (sf_hx_19 (by omega))
      by_cases z2 : sf_sz i + 1 ≤ sf_hx f sf_sz i
      · refine br_t (h2.mpr z2) (nm_r (nI_1 i) (hk _ ?_))
        rw [sf_hx_1 z z2]
      · refine br_f (fun q => z2 (h2.mp q)) (nm_r (nI_1 i) (hk _ ?_))
        rw [sf_hx_2 z z2, sf_I_s]
theorem sf_xG {post : Int32 → Prop} {fc : Int32} {a : Nat → Int32} {s y : Nat} {f : Nat → Nat} (hs : s < 18) (hy : y < 3) (H : sf_HX a s f) (B : sf_B f) (h : post (sf_I (sf_hx f (sf_ex y) 343))) : wpX_highestExponent post (fc, a) (nI s) (nI y) := by
  refine loop_0 (fun n i (x : Int32) => wX_highestExponent_5 post (nI s) (nI y) fc a n x (nI i)) (fun i x => x = sf_I (sf_hx f (sf_ex y) i)) 343 (-1) sf_I_0.symm ?_ ?_
  · intro n x I
    subst I
    exact br_t sf_le343 h
  · intro n i x hi I hk
    subst I
    have ea := sf_rdX H hs hi
    have hf := B i hi
    have he := (sf_ex_ok y hy i hi).1
    refine br_f (sf_nle343 hi) ⟨sf_inX hs hi, ?_⟩
    by_cases z : f i = 0
    · refine br_t (by rw [ea, z]; rfl) (nm_r (nI_1 i) (hk _ ?_))
      rw [sf_hx_0 z]
    · refine br_f (by rw [ea]; exact nI_ne0 (by omega) (by omega)) (sf_xE hy hi ?_)
      have h2 := sf_I_le (sf_ex y i) (by omega) (sf_hx f (sf_ex y) i) (sf_hxe_19 hy (by omega))
      by_cases z2 : sf_ex y i + 1 ≤ sf_hx f (sf_ex y) i
      · refine br_t (h2.mpr z2) (nm_r (nI_1 i) (hk _ ?_))
        rw [sf_hx_1 z z2]
      · refine br_f (fun q => z2 (h2.mp q)) (nm_r (nI_1 i) (hk _ ?_))
        rw [sf_hx_2 z z2, sf_I_s]
end
section
theorem sf_amt (s t : Nat) : (s % 10007 + t) % 10007 = (s + t) % 10007 := by omega
theorem sf_xP {post : SX → Prop} {fc : Int32} {a : Nat → Int32} {tg x y : Nat} {f g : Nat → Nat} (htg : tg < 18) (hx : x < 18) (hy : y < 18) (hxt : x ≠ tg) (hyt : y ≠ tg)
    (Hf : sf_HX a x f) (Hg : sf_HX a y g) (Bf : sf_B f) (Bg : sf_B g)
    (h : ∀ a', sf_HX a' tg (sf_pm f g) → sf_FX tg a a' → post (fc, a')) : wpX_setToProduct post (fc, a) (nI tg) (nI x) (nI y) := by
  unfold wpX_setToProduct
  refine sf_x0 htg (fun b0 H0 F0 => ?_)
  refine loop_0 (fun n i (b : Nat → Int32) => wX_setToProduct_8 post (nI tg) (nI x) (nI y) n (nI i) fc b)
    (fun i b => sf_HX b tg (fun m => sf_sum i (fun j => if j ≤ m then f j * g (m - j) else 0) % 10007) ∧ sf_FX tg a b) 343 b0 ⟨H0, F0⟩ ?_ ?_
  · intro n b I
    exact br_t sf_le343 (h b (sf_HX_c I.1 (fun t ht => sf_pm_x f g ht)) I.2)
  · intro n i b hi I hk
    refine br_f (sf_nle343 hi) ⟨sf_inX hx hi, nm_r (sf_rdX (sf_HX_f Hf I.2 hxt) hx hi) ?_⟩
    have hf := Bf i hi
    refine pk_eq (f i) 0 (fun z => ?_) (fun z => ?_) rfl rfl (by omega) (by omega)
    · refine nm_r (nI_1 i) (hk b ⟨sf_HX_c I.1 (fun t ht => ?_), I.2⟩)
      show _ = (sf_sum i (fun j => if j ≤ t then f j * g (t - j) else 0) + (if i ≤ t then f i * g (t - i) else 0)) % 10007
      rw [z, Nat.zero_mul, ite_self, Nat.add_zero]
    · refine sf_xM htg hy hyt hf (by omega) rfl I.1 (sf_HX_f Hg I.2 hyt) (fun _ _ => sf_mlt _) Bg (fun b' H' F' => nm_r (nI_1 i) (hk b' ⟨sf_HX_c H' (fun t ht => ?_), sf_FX_t I.2 F'⟩))
      exact sf_amt _ _
theorem sf_xQ {post : SX → Prop} {fc : Int32} {a : Nat → Int32} {s y : Nat} {f g : Nat → Nat} (hs : s < 18) (hy : y < 16) (hs16 : s ≠ 16) (hys : y ≠ s)
    (Hf : sf_HX a s f) (Hg : sf_HX a y g) (Bf : sf_B f) (Bg : sf_B g)
    (h : ∀ a', sf_HX a' s (sf_pm f g) → sf_F2 s 16 a a' → post (fc, a')) : wpX_multiplySlotBy post (fc, a) (nI s) (nI y) := by
  unfold wpX_multiplySlotBy
  refine sf_xP (tg := 16) (by decide) hs (by omega) hs16 (by omega) Hf Hg Bf Bg (fun b Hb Fb => ?_)
  refine sf_x0 hs (fun c Hc Fc => ?_)
  refine sf_xM (k := 1) (sh := 0) (sr := 16) hs (by decide) (fun q => hs16 q.symm) (by decide) (by decide) rfl Hc (sf_HX_f Hb Fc (fun q => hs16 q.symm)) (fun _ _ => by decide) (sf_pm_B f g) (fun d Hd Fd => ?_)
  refine h d (sf_HX_c Hd (fun t ht => ?_)) (fun s' h1 h2 t ht => ?_)
  · rw [if_pos (Nat.zero_le _), Nat.one_mul, Nat.zero_add, Nat.sub_zero]
    exact Nat.mod_eq_of_lt (sf_pm_B f g t ht)
  · rw [Fd s' h1 t ht, Fc s' h1 t ht, Fb s' h2 t ht]
/-! derivative -/
def sf_dv (f : Nat → Nat) (s m : Nat) : Nat := if m + sf_un s < 343 ∧ 0 < sf_ex s (m + sf_un s) then f (m + sf_un s) * sf_ex s (m + sf_un s) % 10007 else 0
theorem sf_dv_B (f : Nat → Nat) (s : Nat) : sf_B (sf_dv f s) := by
  intro t _
  unfold sf_dv
  split
  · exact sf_mlt _
  · omega
theorem sf_dv_sup {f : Nat → Nat} {s : Nat} (hs : s < 3) (h : sf_Sup 6 f) : sf_Sup 6 (sf_dv f s) := by
  intro t ht hne
  unfold sf_dv at hne
  by_cases e : t + sf_un s < 343 ∧ 0 < sf_ex s (t + sf_un s)
  · rw [if_pos e] at hne
    have h1 : f (t + sf_un s) ≠ 0 := fun z => hne (by rw [z, Nat.zero_mul])
    have h2 := h _ e.1 h1
    have h3 := (sf_ex_dv s hs _ e.1 e.2).2
    rw [Nat.add_sub_cancel] at h3
    omega
  · rw [if_neg e] at hne
    omega
theorem sf_xV {post : SX → Prop} {fc : Int32} {a : Nat → Int32} {tg x s : Nat} {f : Nat → Nat} (htg : tg < 18) (hx : x < 18) (hxt : x ≠ tg) (hs : s < 3) (Hf : sf_HX a x f) (Bf : sf_B f)
    (h : ∀ a', sf_HX a' tg (sf_dv f s) → sf_FX tg a a' → post (fc, a')) : wpX_setToDerivative post (fc, a) (nI tg) (nI x) (nI s) := by
  unfold wpX_setToDerivative
  have hu := sf_un_ok s hs
  refine sf_xU hs ?_
  refine sf_x0 htg (fun b0 H0 F0 => ?_)
  refine pk_loop (fun n i (b : Nat → Int32) => wX_setToDerivative_15 post (nI tg) (nI x) (nI s) (nI (sf_un s)) fc n (nI i) b)
    (fun i b => sf_HX b tg (fun m => if m + sf_un s < i ∧ 0 < sf_ex s (m + sf_un s) then f (m + sf_un s) * sf_ex s (m + sf_un s) % 10007 else 0) ∧ sf_FX tg a b ∧ sf_un s ≤ i) 343 (sf_un s) b0 (by omega) ⟨sf_HX_c H0 (fun t _ => (if_neg (by omega)).symm), F0, Nat.le_refl _⟩ ?_ ?_
  · intro n b I
    exact br_t sf_le343 (h b I.1 I.2.1)
  · intro n i b hi I hk
    have he := sf_ex_ok s hs i hi
    have hsub : i - sf_un s + sf_un s = i := by omega
    refine br_f (sf_nle343 hi) (sf_xE hs hi ?_)
    refine pk_le (sf_ex s i) 0 (fun z => ?_) (fun z => ?_) rfl rfl (by omega) (by omega)
    · refine nm_r (nI_1 i) (hk b ⟨sf_HX_c I.1 (fun t ht => ?_), I.2.1, by omega⟩)
      by_cases e : t + sf_un s = i
      · rw [e, if_neg (by omega), if_neg (by omega)]
      · by_cases e2 : t + sf_un s < i ∧ 0 < sf_ex s (t + sf_un s)
        · rw [if_pos e2, if_pos ⟨by omega, e2.2⟩]
        · rw [if_neg e2, if_neg (by omega)]
    · have e7 : nI tg * 343 + nI i - nI (sf_un s) = nI (tg * 343 + (i - sf_un s)) := by
        rw [sf_ix, pk_sub (by omega)]
        exact congrArg nI (by omega)
      have hin : vp_in (nI tg * 343 + nI i - nI (sf_un s)) 6174 := by
        rw [e7]
        exact vp_in_nI (by omega) (by decide)
      have hcl : (nI tg * 343 + nI i - nI (sf_un s)).toNatClampNeg = tg * 343 + (i - sf_un s) := by
        rw [e7]
        exact nI_clamp (by omega)
      refine ⟨sf_inX hx hi, nm_r (sf_rdX (sf_HX_f Hf I.2.1 hxt) hx hi) ⟨sf_7, hin, nm_r (sf_upd_at hcl (sf_mu (Bf i hi) (by omega))) (nm_r (nI_1 i) (hk _ ⟨fun t ht => ?_, sf_FX_t I.2.1 (sf_FX_u (by omega)), by omega⟩))⟩⟩
      by_cases e : t = i - sf_un s
      · subst e
        rw [pk_us]
        dsimp only
        rw [hsub, if_pos (by omega)]
      · rw [pk_un (by omega), I.1 t ht]
        dsimp only
        by_cases e2 : t + sf_un s < i ∧ 0 < sf_ex s (t + sf_un s)
        · rw [if_pos e2, if_pos ⟨by omega, e2.2⟩]
        · rw [if_neg e2, if_neg (fun q => e2 ⟨by omega, q.2⟩)]
/-! substitution -/
def sf_ok (f : Nat → Nat) (s h t : Nat) : Prop := f t ≠ 0 → sf_sz t - sf_ex s t + sf_ex s t * h ≤ 6 + sf_ex s t
theorem sf_ok_i : ∀ z, z < 19 → ∀ e, e < 7 → e ≤ z → ∀ h, h < 8 → ((nI z - nI e) + nI e * sf_I h ≤ 6 ↔ z - e + e * h ≤ 6 + e) := by decide +kernel
theorem sf_xS {post : Int32 → Prop} {fc : Int32} {a : Nat → Int32} {x y s : Nat} {f g : Nat → Nat} (hx : x < 18) (hy : y < 18) (hs : s < 3) (Hf : sf_HX a x f) (Hg : sf_HX a y g) (Bf : sf_B f) (Bg : sf_B g) (hg : sf_Sup 6 g)
    (hall : (∀ t, t < 343 → sf_ok f s (sf_hx g sf_sz 343) t) → post 0) (hnot : (¬ ∀ t, t < 343 → sf_ok f s (sf_hx g sf_sz 343) t) → post 1) : wpX_substitutionIsTooHigh post (fc, a) (nI x) (nI s) (nI y) := by
  unfold wpX_substitutionIsTooHigh
  have h7 := sf_hx_7 hg
  refine sf_xH hy Hg Bg ?_
  refine loop_0 (fun n i (_ : Unit) => wX_substitutionIsTooHigh_10 post (nI x) (nI s) (sf_I (sf_hx g sf_sz 343)) fc a n (nI i)) (fun i _ => ∀ t, t < i → sf_ok f s (sf_hx g sf_sz 343) t) 343 () (fun t ht => absurd ht (Nat.not_lt_zero t)) ?_ ?_
  · intro n _ I
    exact br_t sf_le343 (hall I)
  · intro n i _ hi I hk
    have ea := sf_rdX Hf hx hi
    have hf := Bf i hi
    have he := sf_ex_ok s hs i hi
    refine br_f (sf_nle343 hi) ⟨sf_inX hx hi, ?_⟩
    by_cases z : f i = 0
    · exact br_t (by rw [ea, z]; rfl) (nm_r (nI_1 i) (hk () (lt_s I (fun q => absurd z q))))
    · refine br_f (by rw [ea]; exact nI_ne0 (by omega) (by omega)) (sf_xE hs hi (sf_xD hi (nm_e ?_)))
      have h2 := sf_ok_i (sf_sz i) (sf_sz_le i hi) (sf_ex s i) he.1 he.2.1 (sf_hx g sf_sz 343) (by omega)
      by_cases z2 : sf_sz i - sf_ex s i + sf_ex s i * sf_hx g sf_sz 343 ≤ 6 + sf_ex s i
      · exact br_t (h2.mpr z2) (nm_r (nI_1 i) (hk () (lt_s I (fun _ => z2))))
      · exact br_f (fun q => z2 (h2.mp q)) (hnot (fun H => z2 (H i hi z)))
theorem sf_eu : ∀ s, s < 3 → ∀ e, e < 7 → e * sf_un s < 343 := by decide +kernel
theorem sf_xA {post : SX → Prop} {fc : Int32} {a : Nat → Int32} {tg x s e : Nat} {f g q : Nat → Nat} (htg : tg < 17) (hx : x < 16) (hxt : x ≠ tg) (hs : s < 3) (he : e < 7)
    (Hf : sf_HX a x f) (Hg : sf_HX a 17 g) (Hq : sf_HX a tg q) (Bf : sf_B f) (Bg : sf_B g) (Bq : sf_B q)
    (h : ∀ a', sf_HX a' tg (fun m => (q m + sf_sum 343 (fun t => if sf_ex s t = e then (if t - e * sf_un s ≤ m then f t * g (m - (t - e * sf_un s)) else 0) else 0)) % 10007) → sf_FX tg a a' → post (fc, a')) :
    wpX_addTermsWithExponent post (fc, a) (nI tg) (nI x) (nI s) (nI e) := by
  unfold wpX_addTermsWithExponent
  have hu := sf_eu s hs e he
  refine sf_xU hs (nm_r (pk_mul e (sf_un s)) ?_)
  refine pk_loop (fun n i (b : Nat → Int32) => wX_addTermsWithExponent_13 post (nI tg) (nI x) (nI s) (nI e) (nI (e * sf_un s)) n (nI i) fc b)
    (fun i b => sf_HX b tg (fun m => (q m + sf_sum i (fun t => if sf_ex s t = e then (if t - e * sf_un s ≤ m then f t * g (m - (t - e * sf_un s)) else 0) else 0)) % 10007) ∧ sf_FX tg a b ∧ e * sf_un s ≤ i) 343 (e * sf_un s) a (by omega) ⟨sf_HX_c Hq (fun m hm => ?_), sf_FX_r, Nat.le_refl _⟩ ?_ ?_
  · rw [sf_sum_z, Nat.add_zero, Nat.mod_eq_of_lt (Bq m hm)]
    intro t ht
    refine if_neg (fun z => ?_)
    have h3 := (sf_ex_ok s hs t (by omega)).2.2
    rw [z] at h3
    omega
  · intro n b I
    exact br_t sf_le343 (h b I.1 I.2.1)
  · intro n i b hi I hk
    have hf := Bf i hi
    have hex := sf_ex_ok s hs i hi
    refine br_f (sf_nle343 hi) ⟨sf_inX (by omega) hi, nm_r (sf_rdX (sf_HX_f Hf I.2.1 hxt) (by omega) hi) ?_⟩
    refine pk_eq (f i) 0 (fun z => ?_) (fun z => ?_) rfl rfl (by omega) (by omega)
    · refine nm_r (nI_1 i) (hk b ⟨sf_HX_c I.1 (fun m hm => ?_), I.2.1, by omega⟩)
      show _ = (q m + (sf_sum i _ + (if sf_ex s i = e then (if i - e * sf_un s ≤ m then f i * g (m - (i - e * sf_un s)) else 0) else 0))) % 10007
      rw [z, Nat.zero_mul, ite_self, ite_self, Nat.add_zero]
    · refine sf_xE hs hi (pk_eq (sf_ex s i) e (fun z2 => ?_) (fun z2 => ?_) rfl rfl (by omega) (by omega))
      · refine sf_xM (sr := 17) (sh := i - e * sf_un s) (by omega) (by decide) (by omega) hf (by omega) (pk_sub I.2.2) I.1 (sf_HX_f Hg I.2.1 (by omega)) (fun _ _ => sf_mlt _) Bg (fun b' H' F' => nm_r (nI_1 i) (hk b' ⟨sf_HX_c H' (fun m hm => ?_), sf_FX_t I.2.1 F', by omega⟩))
        show _ = (q m + (sf_sum i _ + (if sf_ex s i = e then (if i - e * sf_un s ≤ m then f i * g (m - (i - e * sf_un s)) else 0) else 0))) % 10007
        rw [if_pos z2, ← Nat.add_assoc]
        exact sf_amt _ _
      · refine nm_r (nI_1 i) (hk b ⟨sf_HX_c I.1 (fun m hm => ?_), I.2.1, by omega⟩)
        show _ = (q m + (sf_sum i _ + (if sf_ex s i = e then (if i - e * sf_un s ≤ m then f i * g (m - (i - e * sf_un s)) else 0) else 0))) % 10007
        rw [if_neg z2, Nat.add_zero]
def sf_F3 (s : Nat) (a a' : Nat → Int32) : Prop := ∀ s', s' ≠ s → s' < 16 → ∀ t, t < 343 → a' (s' * 343 + t) = a (s' * 343 + t)
theorem sf_HX_3 {a a' : Nat → Int32} {s s' : Nat} {f : Nat → Nat} (h : sf_HX a s' f) (F : sf_F3 s a a') (hn : s' ≠ s) (hz : s' < 16) : sf_HX a' s' f := fun t ht => (F s' hn hz t ht).trans (h t ht)
theorem sf_xZ {post : SX → Prop} {fc : Int32} {a : Nat → Int32} {tg x y s : Nat} {f g : Nat → Nat} (htg : tg < 16) (hx : x < 16) (hy : y < 16) (hxt : x ≠ tg) (hyt : y ≠ tg) (hs : s < 3)
    (Hf : sf_HX a x f) (Hg : sf_HX a y g) (Bf : sf_B f) (Bg : sf_B g)
    (h : ∀ a', sf_HX a' tg (sf_sb f g s) → sf_F3 tg a a' → post (fc, a')) : wpX_setToSubstitution post (fc, a) (nI tg) (nI x) (nI s) (nI y) := by
  unfold wpX_setToSubstitution
  have h7 := sf_hxe_7 (f := f) hs
  have hge : ∀ t, t < 343 → f t ≠ 0 → sf_ex s t + 1 ≤ sf_hx f (sf_ex s) 343 := fun t ht z => sf_hx_ge (w := sf_ex s) 343 t ht z
  refine sf_xG (by omega) hs Hf Bf ?_
  generalize sf_hx f (sf_ex s) 343 = hh at h7 hge
  refine sf_x0 (by omega) (fun b0 H0 F0 => ?_)
  refine sf_xT (s := 17) (c := 1) (t := 0) (by decide) (by decide) (fun b1 H1 F1 => ?_)
  refine loop_0 (fun n e (b : Nat → Int32) => wX_setToSubstitution_24 post (nI tg) (nI x) (nI s) (nI y) (sf_I hh) n (nI e) fc b)
    (fun e b => sf_HX b tg (fun m => sf_sum e (fun e' => sf_sum 343 (fun t => sf_A f g s e' t m)) % 10007) ∧ sf_HX b 17 (sf_pw g (e - 1)) ∧ sf_F3 tg a b) hh b1 ⟨sf_HX_f H0 F1 (by omega), H1, fun s' h1 h2 t ht => ?_⟩ ?_ ?_
  · rw [F1 s' (by omega) t ht, F0 s' h1 t ht]
  · intro n b I
    refine br_t ((sf_I_lt hh (by omega) hh (by omega)).mpr (Nat.le_refl _)) (h b (sf_HX_c I.1 (fun m hm => sf_sb_x hge m)) I.2.2)
  · intro n e b hi I hk
    have tail : ∀ c, sf_HX c tg (fun m => sf_sum e (fun e' => sf_sum 343 (fun t => sf_A f g s e' t m)) % 10007) → sf_HX c 17 (sf_pw g e) → sf_F3 tg a c →
        wX_setToSubstitution_44 post (wX_setToSubstitution_24 post (nI tg) (nI x) (nI s) (nI y) (sf_I hh) n) (nI tg) (nI x) (nI s) (nI y) (sf_I hh) (nI e) fc c := by
      intro c Hc Hp Fc
      unfold wX_setToSubstitution_44
      refine sf_xA (by omega) hx hxt hs (by omega) (sf_HX_3 Hf Fc hxt hx) Hp Hc Bf (sf_pw_B g e) (fun _ _ => sf_mlt _) (fun d Hd Fd => nm_r (nI_1 e) (hk d ⟨sf_HX_c Hd (fun m hm => sf_amt _ _), sf_HX_f Hp Fd (by omega), fun s' h1 h2 t ht => ?_⟩))
      rw [Fd s' h1 t ht, Fc s' h1 h2 t ht]
    refine br_f (fun q => absurd ((sf_I_lt hh (by omega) e (by omega)).mp q) (by omega)) ?_
    refine pk_le e 0 (fun z => ?_) (fun z => ?_) rfl rfl (by omega) (by omega)
    · have z0 : e = 0 := by omega
      subst z0
      exact tail b I.1 I.2.1 I.2.2
    · refine sf_xQ (s := 17) (by decide) hy (by decide) (by omega) I.2.1 (sf_HX_3 Hg I.2.2 hyt hy) (sf_pw_B g _) Bg (fun d Hd Fd => tail d (sf_HX_2 I.1 Fd (by omega) (by omega)) ?_ (fun s' h1 h2 t ht => ?_))
      · obtain ⟨e', rfl⟩ : ∃ e', e = e' + 1 := ⟨e - 1, by omega⟩
        exact Hd
      · rw [Fd s' (by omega) (by omega) t ht, I.2.2 s' h1 h2 t ht]
theorem sf_xR {post : Int32 → Prop} {fc : Int32} {a : Nat → Int32} {x y : Nat} {f g : Nat → Nat} (hx : x < 18) (hy : y < 18) (Hf : sf_HX a x f) (Hg : sf_HX a y g) (Bf : sf_B f) (Bg : sf_B g)
    (hall : (∀ t, t < 343 → f t = g t) → post 1) (hnot : (¬ ∀ t, t < 343 → f t = g t) → post 0) : wpX_slotsAreEqual post (fc, a) (nI x) (nI y) := by
  refine loop_0 (fun n i (_ : Unit) => wX_slotsAreEqual_2 post (nI x) (nI y) fc a n (nI i)) (fun i _ => ∀ t, t < i → f t = g t) 343 () (fun t ht => absurd ht (Nat.not_lt_zero t)) ?_ ?_
  · intro n _ I
    exact br_t sf_le343 (hall I)
  · intro n i _ hi I hk
    have ea := sf_rdX Hf hx hi
    have eb := sf_rdX Hg hy hi
    have hf := Bf i hi
    have hg := Bg i hi
    refine br_f (sf_nle343 hi) ⟨sf_inX hx hi, sf_inX hy hi, pk_eq (f i) (g i) (fun z => ?_) (fun z => ?_) ea eb (by omega) (by omega)⟩
    · exact nm_r (nI_1 i) (hk () (lt_s I z))
    · exact hnot (fun H => z (H i hi))
end
section
/-! Y: rows of 84 -/
def sf_PL (pl tr : Nat → Int32) : Prop := (∀ t, t < 343 → pl t = if sf_sz t ≤ 6 then nI (sf_rk t) else -1) ∧ ∀ i, i < 84 → tr i = nI (sf_tri i)
def sf_HY (b : Nat → Int32) (s : Nat) (f : Nat → Nat) : Prop := ∀ i, i < 84 → b (84 * s + i) = nI (f (sf_tri i))
def sf_FY (s : Nat) (a a' : Nat → Int32) : Prop := ∀ s', s' ≠ s → ∀ t, t < 84 → a' (84 * s' + t) = a (84 * s' + t)
theorem sf_HY_f {a a' : Nat → Int32} {s s' : Nat} {f : Nat → Nat} (h : sf_HY a s' f) (F : sf_FY s a a') (hn : s' ≠ s) : sf_HY a' s' f := fun t ht => (F s' hn t ht).trans (h t ht)
theorem sf_FY_r {s : Nat} {a : Nat → Int32} : sf_FY s a a := fun _ _ _ _ => rfl
theorem sf_FY_t {s : Nat} {a b c : Nat → Int32} (h : sf_FY s a b) (k : sf_FY s b c) : sf_FY s a c := fun s' hn t ht => (k s' hn t ht).trans (h s' hn t ht)
theorem sf_FY_u {s t : Nat} {a : Nat → Int32} {v : Int32} (ht : t < 84) : sf_FY s a (upd a (84 * s + t) v) := fun s' hn t' ht' => pk_un (by omega)
theorem sf_HY_c {a : Nat → Int32} {s : Nat} {f g : Nat → Nat} (h : sf_HY a s f) (e : ∀ t, t < 343 → f t = g t) : sf_HY a s g := fun t ht => (h t ht).trans (congrArg nI (e _ (sf_tri_ok t ht).1))
theorem sf_iy (s t : Nat) : 84 * nI s + nI t = nI (84 * s + t) := by
  rw [show (84 : Int32) = nI 84 from rfl, pk_mul, nI_add]
theorem sf_inY {s t : Nat} (hs : s < 24) (ht : t < 84) : vp_in (84 * nI s + nI t) 2016 := by
  rw [sf_iy]
  exact vp_in_nI (by omega) (by decide)
theorem sf_clY {s t : Nat} (hs : s < 24) (ht : t < 84) : (84 * nI s + nI t).toNatClampNeg = 84 * s + t := by
  rw [sf_iy]
  exact nI_clamp (by omega)
theorem sf_rdY {a : Nat → Int32} {s t : Nat} {f : Nat → Nat} (H : sf_HY a s f) (hs : s < 24) (ht : t < 84) : a (84 * nI s + nI t).toNatClampNeg = nI (f (sf_tri t)) := by
  rw [sf_clY hs ht]
  exact H t ht
theorem sf_le84 : (84 : Int32) ≤ nI 84 := nI_le (a := 84) (b := 84) (Nat.le_refl _) (by decide)
theorem sf_nle84 {i : Nat} (h : i < 84) : ¬ (84 : Int32) ≤ nI i := nI_ge (a := i) (b := 84) h (by decide)
theorem sf_in84 {i : Nat} (h : i < 84) : vp_in (nI i) 84 := vp_in_nI h (by decide)
theorem sf_tr {pl tr : Nat → Int32} (P : sf_PL pl tr) {i : Nat} (h : i < 84) : tr (nI i).toNatClampNeg = nI (sf_tri i) := by
  rw [nI_clamp (by omega)]
  exact P.2 i h
theorem sf_pl {pl tr : Nat → Int32} (P : sf_PL pl tr) {t : Nat} (h : t < 343) (hz : sf_sz t ≤ 6) {T : Int32} (eT : T = nI t) : pl T.toNatClampNeg = nI (sf_rk t) := by
  rw [eT, nI_clamp (by omega), P.1 t h, if_pos hz]
theorem sf_tB {f : Nat → Nat} (B : sf_B f) {i : Nat} (h : i < 84) : f (sf_tri i) < 10007 := B _ (sf_tri_ok i h).1
theorem sf_tri_inj {i t : Nat} (hi : i < 84) (h : sf_tri i = t) : i = sf_rk t := by
  rw [← h]
  exact (sf_tri_ok i hi).2.2.symm
theorem sf_yE {post : Int32 → Prop} {fc T : Int32} {pl tr b : Nat → Int32} {s t : Nat} (hs : s < 3) (ht : t < 343) (eT : T = nI t) (h : post (nI (sf_ex s t))) : wpY_part post (fc, pl, tr, b) T (nI s) := by
  subst eT
  rcases sf_3 hs with rfl | rfl | rfl
  · refine br_t nI_0 ⟨by decide, ?_⟩
    rw [sf_d49 ht]
    exact h
  · refine br_f sf_n10 (br_t sf_e11 ⟨by decide, by decide, ?_⟩)
    rw [sf_q7 ht]
    exact h
  · refine br_f sf_n20 (br_f sf_n21 ⟨by decide, ?_⟩)
    rw [sf_m7 ht]
    exact h
theorem sf_yD {post : Int32 → Prop} {fc T : Int32} {pl tr b : Nat → Int32} {t : Nat} (ht : t < 343) (eT : T = nI t) (h : post (nI (sf_sz t))) : wpY_size post (fc, pl, tr, b) T := by
  subst eT
  refine ⟨by decide, by decide, by decide, by decide, ?_⟩
  rw [sf_d49 ht, sf_q7 ht, sf_m7 ht, nI_add, nI_add]
  exact h
theorem sf_yU {post : Int32 → Prop} {fc : Int32} {pl tr b : Nat → Int32} {s : Nat} (hs : s < 3) (h : post (nI (sf_un s))) : wpY_unit post (fc, pl, tr, b) (nI s) := by
  rcases sf_3 hs with rfl | rfl | rfl
  · exact br_t nI_0 h
  · exact br_f sf_n10 (br_t sf_e11 h)
  · exact br_f sf_n20 (br_f sf_n21 h)
theorem sf_y0 {post : SY → Prop} {fc : Int32} {pl tr a : Nat → Int32} {s : Nat} (hs : s < 24) (h : ∀ a', sf_HY a' s (fun _ => 0) → sf_FY s a a' → post (fc, pl, tr, a')) : wpY_zero post (fc, pl, tr, a) (nI s) := by
  refine loop_0 (fun n i (b : Nat → Int32) => wY_zero_2 post (nI s) fc n (nI i) pl tr b) (fun i b => (∀ t, t < i → b (84 * s + t) = nI 0) ∧ sf_FY s a b) 84 a ⟨fun t ht => absurd ht (Nat.not_lt_zero t), sf_FY_r⟩ ?_ ?_
  · intro n b I
    exact br_t sf_le84 (h b I.1 I.2)
  · intro n i b hi I hk
    refine br_f (sf_nle84 hi) ⟨sf_inY hs hi, nm_r (sf_upd_at (sf_clY hs hi) rfl) (nm_r (nI_1 i) (hk _ ⟨fun t ht => ?_, sf_FY_t I.2 (sf_FY_u hi)⟩))⟩
    by_cases e : t = i
    · subst e
      exact pk_us
    · rw [pk_un (by omega)]
      exact I.1 t (by omega)
theorem sf_yC {post : SY → Prop} {fc : Int32} {pl tr a : Nat → Int32} {s z : Nat} {f : Nat → Nat} (hs : s < 24) (hz : z < 24) (hne : s ≠ z) (H : sf_HY a s f) (h : ∀ a', sf_HY a' z f → sf_FY z a a' → post (fc, pl, tr, a')) : wpY_copy post (fc, pl, tr, a) (nI s) (nI z) := by
  refine loop_0 (fun n i (b : Nat → Int32) => wY_copy_2 post (nI s) (nI z) fc n (nI i) pl tr b) (fun i b => (∀ t, t < i → b (84 * z + t) = nI (f (sf_tri t))) ∧ sf_FY z a b) 84 a ⟨fun t ht => absurd ht (Nat.not_lt_zero t), sf_FY_r⟩ ?_ ?_
  · intro n b I
    exact br_t sf_le84 (h b I.1 I.2)
  · intro n i b hi I hk
    refine br_f (sf_nle84 hi) ⟨sf_inY hs hi, sf_inY hz hi, nm_r (sf_upd_at (sf_clY hz hi) (sf_rdY (sf_HY_f H I.2 hne) hs hi)) (nm_r (nI_1 i) (hk _ ⟨fun t ht => ?_, sf_FY_t I.2 (sf_FY_u hi)⟩))⟩
    by_cases e : t = i
    · subst e
      exact pk_us
    · rw [pk_un (by omega)]
      exact I.1 t (by omega)
theorem sf_yT {post : SY → Prop} {fc : Int32} {pl tr a : Nat → Int32} {tg x y : Nat} {f g : Nat → Nat} {dx dy : Nat} (P : sf_PL pl tr) (htg : tg < 24) (hx : x < 24) (hy : y < 24) (hxt : x ≠ tg) (hyt : y ≠ tg)
    (Hf : sf_HY a x f) (Hg : sf_HY a y g) (Bf : sf_B f) (Bg : sf_B g) (Sf : sf_Sup dx f) (Sg : sf_Sup dy g) (hd : dx + dy ≤ 6)
    (h : ∀ a', sf_HY a' tg (sf_pm f g) → sf_FY tg a a' → post (fc, pl, tr, a')) : wpY_times post (fc, pl, tr, a) (nI tg) (nI x) (nI y) := by
  unfold wpY_times
  refine sf_y0 htg (fun b0 H0 F0 => ?_)
  refine loop_0 (fun n i (b : Nat → Int32) => wY_times_8 post (nI tg) (nI x) (nI y) fc n (nI i) pl tr b)
    (fun i b => sf_HY b tg (fun m => sf_sum i (fun p => sf_sum 84 (fun q => sf_Q f g (sf_tri p) (sf_tri q) m)) % 10007) ∧ sf_FY tg a b) 84 b0 ⟨H0, F0⟩ ?_ ?_
  · intro n b I
    exact br_t sf_le84 (h b (sf_HY_c I.1 (fun t ht => sf_pm_y Sf Sg hd ht)) I.2)
  · intro n i b hi I hk
    refine br_f (sf_nle84 hi) ?_
    refine loop_0 (fun n' j (c : Nat → Int32) => wY_times_18 post (wY_times_8 post (nI tg) (nI x) (nI y) fc n) (nI tg) (nI x) (nI y) (nI i) fc n' (nI j) pl tr c)
      (fun j c => sf_HY c tg (fun m => (sf_sum i (fun p => sf_sum 84 (fun q => sf_Q f g (sf_tri p) (sf_tri q) m)) + sf_sum j (fun q => sf_Q f g (sf_tri i) (sf_tri q) m)) % 10007) ∧ sf_FY tg a c) 84 b I ?_ ?_
    · intro n' c J
      exact br_t sf_le84 (nm_r (nI_1 i) (hk c J))
    · intro n' j c hj J hk'
      have hfi := sf_tB Bf hi
      have hgj := sf_tB Bg hj
      have oi := sf_tri_ok i hi
      have oj := sf_tri_ok j hj
      have z0 : ∀ m, sf_Q f g (sf_tri i) (sf_tri j) m = 0 → (sf_sum i (fun p => sf_sum 84 (fun q => sf_Q f g (sf_tri p) (sf_tri q) m)) + sf_sum j (fun q => sf_Q f g (sf_tri i) (sf_tri q) m)) % 10007
          = (sf_sum i (fun p => sf_sum 84 (fun q => sf_Q f g (sf_tri p) (sf_tri q) m)) + sf_sum (j + 1) (fun q => sf_Q f g (sf_tri i) (sf_tri q) m)) % 10007 := by
        intro m hm
        show _ = (_ + (sf_sum j (fun q => sf_Q f g (sf_tri i) (sf_tri q) m) + sf_Q f g (sf_tri i) (sf_tri j) m)) % 10007
        rw [hm, Nat.add_zero]
      refine br_f (sf_nle84 hj) ⟨sf_inY hx hi, nm_r (sf_rdY (sf_HY_f Hf J.2 hxt) hx hi) ⟨sf_inY hy hj, nm_r (sf_rdY (sf_HY_f Hg J.2 hyt) hy hj) ?_⟩⟩
      refine pk_eq (f (sf_tri i)) 0 (fun z => ?_) (fun z => ?_) rfl rfl (by omega) (by omega)
      · refine nm_r (nI_1 j) (hk' c ⟨sf_HY_c J.1 (fun m _ => z0 m ?_), J.2⟩)
        unfold sf_Q
        rw [z, Nat.zero_mul, ite_self]
      · refine pk_eq (g (sf_tri j)) 0 (fun z2 => ?_) (fun z2 => ?_) rfl rfl (by omega) (by omega)
        · refine nm_r (nI_1 j) (hk' c ⟨sf_HY_c J.1 (fun m _ => z0 m ?_), J.2⟩)
          unfold sf_Q
          rw [z2, Nat.mul_zero, ite_self]
        · refine ⟨sf_in84 hi, sf_yD oi.1 (sf_tr P hi) ⟨sf_in84 hj, sf_yD oj.1 (sf_tr P hj) ?_⟩⟩
          refine pk_lt 6 (sf_sz (sf_tri i) + sf_sz (sf_tri j)) (fun z3 => ?_) (fun z3 => ?_) rfl (nI_add _ _) (by omega) (by omega)
          · refine nm_r (nI_1 j) (hk' c ⟨sf_HY_c J.1 (fun m _ => z0 m ?_), J.2⟩)
            exact if_neg (by omega)
          · have hc := sf_carry oi.1 oj.1 z3
            have hz : sf_sz (sf_tri i + sf_tri j) ≤ 6 := by omega
            have hr := sf_rk_ok _ hc.1 hz
            have et : tr (nI i).toNatClampNeg + tr (nI j).toNatClampNeg = nI (sf_tri i + sf_tri j) := by
              rw [sf_tr P hi, sf_tr P hj, nI_add]
            have hv : vp_in (tr (nI i).toNatClampNeg + tr (nI j).toNatClampNeg) 343 := by
              rw [et]
              exact vp_in_nI hc.1 (by decide)
            generalize hk0 : sf_rk (sf_tri i + sf_tri j) = k at hr
            have e8 : 84 * nI tg + pl (tr (nI i).toNatClampNeg + tr (nI j).toNatClampNeg).toNatClampNeg = nI (84 * tg + k) := by
              rw [sf_pl P hc.1 hz et, hk0, sf_iy]
            have hin : vp_in (nI (84 * tg + k)) 2016 := vp_in_nI (by omega) (by decide)
            have hcl : (nI (84 * tg + k)).toNatClampNeg = 84 * tg + k := nI_clamp (by omega)
            have hrd : c (nI (84 * tg + k)).toNatClampNeg = nI ((sf_sum i (fun p => sf_sum 84 (fun q => sf_Q f g (sf_tri p) (sf_tri q) (sf_tri k))) + sf_sum j (fun q => sf_Q f g (sf_tri i) (sf_tri q) (sf_tri k))) % 10007) := by
              rw [hcl]
              exact J.1 k hr.1
            have hval : (c (nI (84 * tg + k)).toNatClampNeg + nI (f (sf_tri i)) * nI (g (sf_tri j))) - (c (nI (84 * tg + k)).toNatClampNeg + nI (f (sf_tri i)) * nI (g (sf_tri j))) / 10007 * 10007
                = nI (((sf_sum i (fun p => sf_sum 84 (fun q => sf_Q f g (sf_tri p) (sf_tri q) (sf_tri k))) + sf_sum j (fun q => sf_Q f g (sf_tri i) (sf_tri q) (sf_tri k))) % 10007 + f (sf_tri i) * g (sf_tri j)) % 10007) := by
              rw [hrd]
              exact sf_mac (sf_mlt _) hfi hgj
            refine ⟨sf_in84 hi, sf_in84 hj, hv, nm_r e8 ⟨hin, sf_7, hin, nm_r (sf_upd_at hcl hval) (nm_r (nI_1 j) (hk' _ ⟨fun t ht => ?_, sf_FY_t J.2 (sf_FY_u hr.1)⟩))⟩⟩
            by_cases e : t = k
            · subst e
              rw [pk_us, sf_amt]
              have hQ : sf_Q f g (sf_tri i) (sf_tri j) (sf_tri t) = f (sf_tri i) * g (sf_tri j) := if_pos ⟨z3, hr.2.symm⟩
              show _ = nI ((_ + (sf_sum j (fun q => sf_Q f g (sf_tri i) (sf_tri q) (sf_tri t)) + sf_Q f g (sf_tri i) (sf_tri j) (sf_tri t))) % 10007)
              rw [hQ, Nat.add_assoc]
            · rw [pk_un (by omega), J.1 t ht]
              refine congrArg nI (z0 (sf_tri t) (if_neg (fun q => e ?_)))
              rw [← hk0]
              exact sf_tri_inj ht q.2.symm
theorem sf_yH {post : Int32 → Prop} {fc : Int32} {pl tr a : Nat → Int32} {s : Nat} {f : Nat → Nat} (P : sf_PL pl tr) (hs : s < 24) (H : sf_HY a s f) (B : sf_B f) (S : sf_Sup 6 f) (h : post (sf_I (sf_hx f sf_sz 343))) : wpY_degreeOf post (fc, pl, tr, a) (nI s) := by
  rw [← sf_hx_re2 f sf_sz S] at h
  refine loop_0 (fun n i (x : Int32) => wY_degreeOf_4 post (nI s) fc pl tr a n x (nI i)) (fun i x => x = sf_I (sf_hx (fun i => f (sf_tri i)) (fun i => sf_sz (sf_tri i)) i)) 84 (-1) sf_I_0.symm ?_ ?_
  · intro n x I
    subst I
    exact br_t sf_le84 h
  · intro n i x hi I hk
    subst I
    have ea := sf_rdY H hs hi
    have hf := sf_tB B hi
    have oi := sf_tri_ok i hi
    refine br_f (sf_nle84 hi) ⟨sf_inY hs hi, ?_⟩
    by_cases z : f (sf_tri i) = 0
    · refine br_t (by rw [ea, z]; rfl) (nm_r (nI_1 i) (hk _ ?_))
      rw [sf_hx_0 (f := fun i => f (sf_tri i)) z]
    · refine br_f (by rw [ea]; exact nI_ne0 (by omega) (by omega)) ⟨sf_in84 hi, sf_yD oi.1 (sf_tr P hi) ?_⟩
      have hb : sf_hx (fun i => f (sf_tri i)) (fun i => sf_sz (sf_tri i)) i ≤ 7 := sf_hx_le i (fun t ht _ => by
        have := (sf_tri_ok t (by omega)).2.1
        omega)
      have h2 := sf_I_le (sf_sz (sf_tri i)) (by omega) (sf_hx (fun i => f (sf_tri i)) (fun i => sf_sz (sf_tri i)) i) (by omega)
      by_cases z2 : sf_sz (sf_tri i) + 1 ≤ sf_hx (fun i => f (sf_tri i)) (fun i => sf_sz (sf_tri i)) i
      · refine br_t (h2.mpr z2) (nm_r (nI_1 i) (hk _ ?_))
        rw [sf_hx_1 (f := fun i => f (sf_tri i)) z z2]
      · refine br_f (fun q => z2 (h2.mp q)) ⟨sf_in84 hi, sf_yD oi.1 (sf_tr P hi) (nm_r (nI_1 i) (hk _ ?_))⟩
        rw [sf_hx_2 (f := fun i => f (sf_tri i)) (w := fun i => sf_sz (sf_tri i)) z z2, sf_I_s]
theorem sf_yK {post : Int32 → SY → Prop} {pl tr a : Nat → Int32} {c : Nat} {f : Nat → Nat} (hc : c < 16) (H : sf_HY a 16 f) (h : ∀ a', sf_HY a' c f → sf_FY c a a' → post (nI c) (nI (c + 1), pl, tr, a')) : wpY_take post (nI c, pl, tr, a) := by
  unfold wpY_take
  refine sf_yC (s := 16) (by decide) (by omega) (by omega) H (fun b Hb Fb => nm_r (nI_1 c) ?_)
  rw [nI_pred]
  exact h b Hb Fb
end
section
/-! the residue -/
theorem sf_tmod (a : Int) : (0 ≤ a.tmod 10007 → a % 10007 = a.tmod 10007) ∧ (¬ 0 ≤ a.tmod 10007 → a % 10007 = a.tmod 10007 + 10007) := by
  rcases Int.le_total 0 a with h0 | h0
  · rw [Int.tmod_eq_emod_of_nonneg h0]
    omega
  · have e : a.tmod 10007 = -((-a).tmod 10007) := by rw [Int.neg_tmod, Int.neg_neg]
    rw [e, Int.tmod_eq_emod_of_nonneg (by omega)]
    omega
theorem sf_red (x : Int32) : ∃ v : Nat, v < 10007 ∧ (v : Int) = x.toInt % 10007 ∧ (∀ post : Int32 → Prop, post (nI v) → wpX_residue post x)
    ∧ ∀ (post : Int32 → Prop) (fc : Int32) (pl tr b : Nat → Int32), post (nI v) → wpY_reduced post (fc, pl, tr, b) x := by
  have hr : (x - x / 10007 * 10007).toInt = x.toInt.tmod 10007 := rem_toInt x 10007
  have hb := tmod_bounds (a := x.toInt) (M := 10007) (by decide)
  have ht := sf_tmod x.toInt
  have h00 : (0 : Int32).toInt = 0 := by decide
  have h17 : (10007 : Int32).toInt = 10007 := by decide
  generalize hR : x - x / 10007 * 10007 = r at hr
  rw [← hr] at hb ht
  by_cases h0 : 0 ≤ r
  · have h1 : 0 ≤ r.toInt := by
      rw [Int32.le_iff_toInt_le, h00] at h0
      exact h0
    have e : r = nI r.toInt.toNat := by
      apply Int32.toInt_inj.mp
      rw [nI_toInt (by omega)]
      omega
    refine ⟨r.toInt.toNat, by omega, by have := ht.1 h1; omega, fun post hp => ⟨sf_7, ?_⟩, fun post fc pl tr b hp => ⟨sf_7, ?_⟩⟩
    · rw [hR]
      exact nm_e (br_t h0 (by rw [e]; exact hp))
    · rw [hR]
      exact nm_e (br_t h0 (by rw [e]; exact hp))
  · have h1 : ¬ 0 ≤ r.toInt := by
      rw [Int32.le_iff_toInt_le, h00] at h0
      exact h0
    have e : r + 10007 = nI (r.toInt + 10007).toNat := by
      apply Int32.toInt_inj.mp
      rw [nI_toInt (by omega), Int32.toInt_add, h17, Int.bmod_eq_of_le (by omega) (by omega)]
      omega
    refine ⟨(r.toInt + 10007).toNat, by omega, by have := ht.2 h1; omega, fun post hp => ⟨sf_7, ?_⟩, fun post fc pl tr b hp => ⟨sf_7, ?_⟩⟩
    · rw [hR]
      exact nm_e (br_f h0 (by rw [e]; exact hp))
    · rw [hR]
      exact nm_e (br_f h0 (by rw [e]; exact hp))
/-! arguments -/
theorem sf_ixc (x : Int32) {c : Nat} (hc : c ≤ 16) : (x < 0 ∨ nI c ≤ x) ∨ ∃ j, j < c ∧ x = nI j := by
  rcases pk_ix x (n := c) (by omega) with h | h | h
  · exact Or.inl (Or.inl h)
  · exact Or.inl (Or.inr h)
  · exact Or.inr h
theorem sf_sy (x : Int32) : (x < 0 ∨ 2 < x) ∨ ∃ s, s < 3 ∧ x = nI s := by
  rcases pk_ix x (n := 3) (by omega) with h | h | h
  · exact Or.inl (Or.inl h)
  · refine Or.inl (Or.inr ?_)
    exact Int32.lt_of_lt_of_le (show (2 : Int32) < nI 3 by decide) h
  · exact Or.inr h
theorem sf_10 : ¬ (1 : Int32) = 0 := by decide
theorem sf_xI_t {post : Int32 → Prop} {a : Nat → Int32} {c j : Nat} (hc : c ≤ 16) (hj : j < c) (h : post 1) : wpX_isExpression post (nI c, a) (nI j) :=
  br_f (nI_pos (by omega)) (br_f (nI_ge hj (by omega)) h)
theorem sf_xI_f {post : Int32 → Prop} {a : Nat → Int32} {c : Nat} {x : Int32} (hb : x < 0 ∨ nI c ≤ x) (h : post 0) : wpX_isExpression post (nI c, a) x := by
  by_cases h0 : x < 0
  · exact br_t h0 h
  · rcases hb with hb | hb
    · exact absurd hb h0
    · exact br_f h0 (br_t hb h)
theorem sf_yB_t {post : Int32 → Prop} {pl tr b : Nat → Int32} {c j : Nat} (hc : c ≤ 16) (hj : j < c) (h : post 0) : wpY_bad post (nI c, pl, tr, b) (nI j) :=
  br_f (nI_pos (by omega)) (br_f (nI_ge hj (by omega)) (br_t (nI_le (a := j) (b := 15) (by omega) (by decide)) h))
theorem sf_yB_f {post : Int32 → Prop} {pl tr b : Nat → Int32} {c : Nat} {x : Int32} (hb : x < 0 ∨ nI c ≤ x) (h : post 1) : wpY_bad post (nI c, pl, tr, b) x := by
  by_cases h0 : x < 0
  · exact br_t h0 h
  · rcases hb with hb | hb
    · exact absurd hb h0
    · exact br_f h0 (br_t hb h)
theorem sf_xF_0 {post : Int32 → Prop} {a : Nat → Int32} {c : Nat} (hc : c < 16) (h : post 0) : wpX_isFull post (nI c, a) := br_t (nI_lt (a := c) (b := 16) hc (by decide)) h
theorem sf_xF_1 {post : Int32 → Prop} {a : Nat → Int32} {c : Nat} (hc : c = 16) (h : post 1) : wpX_isFull post (nI c, a) := br_f (by subst hc; decide) h
theorem sf_yF_0 {post : Int32 → Prop} {pl tr b : Nat → Int32} {c : Nat} (hc : c < 16) (h : post 0) : wpY_full post (nI c, pl, tr, b) := br_t (nI_lt (a := c) (b := 16) hc (by decide)) h
theorem sf_yF_1 {post : Int32 → Prop} {pl tr b : Nat → Int32} {c : Nat} (hc : c = 16) (h : post 1) : wpY_full post (nI c, pl, tr, b) := br_f (by subst hc; decide) h
theorem sf_xY_t {post : Int32 → Prop} {s : Nat} (hs : s < 3) (h : post 1) : wpX_isSymbol post (nI s) := br_f (nI_pos (by omega)) (br_f (nI_nlt (a := 2) (b := s) (by omega) (by decide)) h)
theorem sf_xY_f {post : Int32 → Prop} {x : Int32} (hb : x < 0 ∨ 2 < x) (h : post 0) : wpX_isSymbol post x := by
  by_cases h0 : x < 0
  · exact br_t h0 h
  · rcases hb with hb | hb
    · exact absurd hb h0
    · exact br_f h0 (br_t hb h)
theorem sf_yY_t {post : Int32 → Prop} {fc : Int32} {pl tr b : Nat → Int32} {s : Nat} (hs : s < 3) (h : post 0) : wpY_badSymbol post (fc, pl, tr, b) (nI s) := br_f (nI_pos (by omega)) (br_t (nI_le (a := s) (b := 2) (by omega) (by decide)) h)
theorem sf_yY_f {post : Int32 → Prop} {fc : Int32} {pl tr b : Nat → Int32} {x : Int32} (hb : x < 0 ∨ 2 < x) (h : post 1) : wpY_badSymbol post (fc, pl, tr, b) x := by
  by_cases h0 : x < 0
  · exact br_t h0 h
  · rcases hb with hb | hb
    · exact absurd hb h0
    · exact br_f h0 (br_f (Int32.not_le.mpr hb) h)
/-! questions -/
theorem sf_yR {post : Int32 → Prop} {fc : Int32} {pl tr a : Nat → Int32} {x y : Nat} {f g : Nat → Nat} (hx : x < 24) (hy : y < 24) (Hf : sf_HY a x f) (Hg : sf_HY a y g) (Bf : sf_B f) (Bg : sf_B g) (Sf : sf_Sup 6 f) (Sg : sf_Sup 6 g)
    (hall : (∀ t, t < 343 → f t = g t) → post 1) (hnot : (¬ ∀ t, t < 343 → f t = g t) → post 0) : wpY_equal post (fc, pl, tr, a) (nI x) (nI y) := by
  refine loop_0 (fun n i (_ : Unit) => wY_equal_2 post (nI x) (nI y) fc pl tr a n (nI i)) (fun i _ => ∀ t, t < i → f (sf_tri t) = g (sf_tri t)) 84 () (fun t ht => absurd ht (Nat.not_lt_zero t)) ?_ ?_
  · intro n _ I
    refine br_t sf_le84 (hall (fun t ht => ?_))
    by_cases z : sf_sz t ≤ 6
    · have h1 := sf_rk_ok t ht z
      have h2 := I _ h1.1
      rw [h1.2] at h2
      exact h2
    · rw [sf_Sup_z Sf ht (by omega), sf_Sup_z Sg ht (by omega)]
  · intro n i _ hi I hk
    have ea := sf_rdY Hf hx hi
    have eb := sf_rdY Hg hy hi
    have hf := sf_tB Bf hi
    have hg := sf_tB Bg hi
    refine br_f (sf_nle84 hi) ⟨sf_inY hx hi, sf_inY hy hi, pk_eq (f (sf_tri i)) (g (sf_tri i)) (fun z => ?_) (fun z => ?_) ea eb (by omega) (by omega)⟩
    · exact nm_r (nI_1 i) (hk () (lt_s I z))
    · exact hnot (fun H => z (H _ (sf_tri_ok i hi).1))
theorem sf_yG {post : Int32 → Prop} {fc : Int32} {pl tr a : Nat → Int32} {s y : Nat} {f : Nat → Nat} (P : sf_PL pl tr) (hs : s < 24) (hy : y < 3) (H : sf_HY a s f) (B : sf_B f) (S : sf_Sup 6 f) (h : post (sf_I (sf_hx f (sf_ex y) 343))) : ∃ n, wY_degreeIn_27 post (nI s) (nI y) fc pl tr a n (-1) 0 := by
  rw [← sf_hx_re2 f (sf_ex y) S] at h
  refine loop_0 (fun n i (x : Int32) => wY_degreeIn_27 post (nI s) (nI y) fc pl tr a n x (nI i)) (fun i x => x = sf_I (sf_hx (fun i => f (sf_tri i)) (fun i => sf_ex y (sf_tri i)) i)) 84 (-1) sf_I_0.symm ?_ ?_
  · intro n x I
    subst I
    exact br_t sf_le84 h
  · intro n i x hi I hk
    subst I
    have ea := sf_rdY H hs hi
    have hf := sf_tB B hi
    have oi := sf_tri_ok i hi
    have he := (sf_ex_ok y hy _ oi.1).1
    refine br_f (sf_nle84 hi) ⟨sf_inY hs hi, ?_⟩
    by_cases z : f (sf_tri i) = 0
    · refine br_t (by rw [ea, z]; rfl) (nm_r (nI_1 i) (hk _ ?_))
      rw [sf_hx_0 (f := fun i => f (sf_tri i)) z]
    · refine br_f (by rw [ea]; exact nI_ne0 (by omega) (by omega)) ⟨sf_in84 hi, sf_yE hy oi.1 (sf_tr P hi) ?_⟩
      have hb : sf_hx (fun i => f (sf_tri i)) (fun i => sf_ex y (sf_tri i)) i ≤ 7 := sf_hx_le i (fun t ht _ => by
        have := (sf_ex_ok y hy _ (sf_tri_ok t (by omega)).1).1
        omega)
      have h2 := sf_I_le (sf_ex y (sf_tri i)) (by omega) (sf_hx (fun i => f (sf_tri i)) (fun i => sf_ex y (sf_tri i)) i) (by omega)
      by_cases z2 : sf_ex y (sf_tri i) + 1 ≤ sf_hx (fun i => f (sf_tri i)) (fun i => sf_ex y (sf_tri i)) i
      · refine br_t (h2.mpr z2) (nm_r (nI_1 i) (hk _ ?_))
        rw [sf_hx_1 (f := fun i => f (sf_tri i)) z z2]
      · refine br_f (fun q => z2 (h2.mp q)) ⟨sf_in84 hi, sf_yE hy oi.1 (sf_tr P hi) (nm_r (nI_1 i) (hk _ ?_))⟩
        rw [sf_hx_2 (f := fun i => f (sf_tri i)) (w := fun i => sf_ex y (sf_tri i)) z z2, sf_I_s]
def sf_nz (f : Nat → Nat) (t : Nat) : Nat := if f t = 0 then 0 else 1
theorem sf_xN {post : Int32 → Prop} {fc : Int32} {a : Nat → Int32} {s : Nat} {f : Nat → Nat} (hs : s < 18) (H : sf_HX a s f) (B : sf_B f) (h : post (nI (sf_sum 343 (sf_nz f)))) : ∃ n, wX_terms_14 post (nI s) fc a n 0 0 := by
  refine loop_0 (fun n i (x : Int32) => wX_terms_14 post (nI s) fc a n x (nI i)) (fun i x => x = nI (sf_sum i (sf_nz f))) 343 0 nI_0.symm ?_ ?_
  · intro n x I
    subst I
    exact br_t sf_le343 h
  · intro n i x hi I hk
    subst I
    have ea := sf_rdX H hs hi
    have hf := B i hi
    refine br_f (sf_nle343 hi) ⟨sf_inX hs hi, ?_⟩
    by_cases z : f i = 0
    · refine br_t (by rw [ea, z]; rfl) (nm_r (nI_1 i) (hk _ (congrArg nI ?_)))
      show _ = _ + sf_nz f i
      rw [show sf_nz f i = 0 from if_pos z]
      rfl
    · refine br_f (by rw [ea]; exact nI_ne0 (by omega) (by omega)) (nm_r (nI_1 _) (nm_r (nI_1 i) (hk _ (congrArg nI ?_))))
      show _ = _ + sf_nz f i
      rw [show sf_nz f i = 1 from if_neg z]
theorem sf_yN {post : Int32 → Prop} {fc : Int32} {pl tr a : Nat → Int32} {s : Nat} {f : Nat → Nat} (hs : s < 24) (H : sf_HY a s f) (B : sf_B f) (S : sf_Sup 6 f) (h : post (nI (sf_sum 343 (sf_nz f)))) : ∃ n, wY_terms_14 post (nI s) fc pl tr a n 0 0 := by
  rw [← sf_sum_re2 (sf_nz f) (fun t ht hz => if_pos (sf_Sup_z S ht hz))] at h
  refine loop_0 (fun n i (x : Int32) => wY_terms_14 post (nI s) fc pl tr a n x (nI i)) (fun i x => x = nI (sf_sum i (fun b => sf_nz f (sf_tri b)))) 84 0 nI_0.symm ?_ ?_
  · intro n x I
    subst I
    exact br_t sf_le84 h
  · intro n i x hi I hk
    subst I
    have ea := sf_rdY H hs hi
    have hf := sf_tB B hi
    refine br_f (sf_nle84 hi) ⟨sf_inY hs hi, ?_⟩
    by_cases z : f (sf_tri i) = 0
    · refine br_t (by rw [ea, z]; rfl) (nm_r (nI_1 i) (hk _ (congrArg nI ?_)))
      show _ = _ + sf_nz f (sf_tri i)
      rw [show sf_nz f (sf_tri i) = 0 from if_pos z]
      rfl
    · refine br_f (by rw [ea]; exact nI_ne0 (by omega) (by omega)) (nm_r (nI_1 _) (nm_r (nI_1 i) (hk _ (congrArg nI ?_))))
      show _ = _ + sf_nz f (sf_tri i)
      rw [show sf_nz f (sf_tri i) = 1 from if_neg z]
theorem sf_term {fc fd q : Int32} {a pl tr b : Nat → Int32} {s : Nat} {f : Nat → Nat} (P : sf_PL pl tr) (hs : s < 16) (HX : sf_HX a s f) (HY : sf_HY b s f) (B : sf_B f) (S : sf_Sup 6 f) :
    ∀ n, n ≤ 343 → ∀ p : Int32, ∃ r : Int32, (∀ post : Int32 → Prop, post r → wX_term_17 post (nI s) q fc a (n + 1) p (nI n + (-1))) ∧ ∀ post : Int32 → Prop, post r → wY_term_16 post (nI s) q fd pl tr b (sf_rk n + 1) p (nI (sf_rk n) + (-1)) := by
  intro n
  induction n with
  | zero =>
    intro _ p
    exact ⟨-2, fun _ hp => br_t (by decide) hp, fun _ hp => br_t (by decide) hp⟩
  | succ n ih =>
    intro hn p
    have hx0 : ¬ nI n < 0 := nI_pos (by omega)
    have hi : n < 343 := by omega
    have ea := sf_rdX HX (by omega) hi
    have hf := B n hi
    rw [pk_m1]
    by_cases z6 : sf_sz n ≤ 6
    · have hr := sf_rk_ok n hi z6
      rw [show sf_rk (n + 1) = sf_rk n + 1 from if_pos z6, pk_m1]
      have hy0 : ¬ nI (sf_rk n) < 0 := nI_pos (by omega)
      have eb := sf_rdY HY (by omega) hr.1
      rw [hr.2] at eb
      by_cases z : f n = 0
      · obtain ⟨r, h1, h2⟩ := ih (by omega) p
        exact ⟨r, fun post hp => br_f hx0 ⟨sf_inX (by omega) hi, br_t (by rw [ea, z]; rfl) (nm_e (h1 post hp))⟩, fun post hp => br_f hy0 ⟨sf_inY (by omega) hr.1, br_t (by rw [eb, z]; rfl) (nm_e (h2 post hp))⟩⟩
      · have hx1 : ¬ a (nI s * 343 + nI n).toNatClampNeg = 0 := by rw [ea]; exact nI_ne0 (by omega) (by omega)
        have hy1 : ¬ b (84 * nI s + nI (sf_rk n)).toNatClampNeg = 0 := by rw [eb]; exact nI_ne0 (by omega) (by omega)
        by_cases zp : p = q
        · refine ⟨nI n, fun post hp => br_f hx0 ⟨sf_inX (by omega) hi, br_f hx1 (br_t zp hp)⟩, fun post hp => br_f hy0 ⟨sf_inY (by omega) hr.1, br_f hy1 (br_t zp ⟨sf_in84 hr.1, ?_⟩)⟩⟩
          rw [sf_tr P hr.1, hr.2]
          exact hp
        · obtain ⟨r, h1, h2⟩ := ih (by omega) (p + 1)
          exact ⟨r, fun post hp => br_f hx0 ⟨sf_inX (by omega) hi, br_f hx1 (br_f zp (nm_e (nm_e (h1 post hp))))⟩, fun post hp => br_f hy0 ⟨sf_inY (by omega) hr.1, br_f hy1 (br_f zp (nm_e (nm_e (h2 post hp))))⟩⟩
    · rw [show sf_rk (n + 1) = sf_rk n from if_neg z6]
      have z : f n = 0 := sf_Sup_z S hi (by omega)
      obtain ⟨r, h1, h2⟩ := ih (by omega) p
      exact ⟨r, fun post hp => br_f hx0 ⟨sf_inX (by omega) hi, br_t (by rw [ea, z]; rfl) (nm_e (h1 post hp))⟩, h2⟩
/-! values -/
theorem sf_pwr (v b i : Nat) : v * b ^ i % 10007 * b % 10007 = v * b ^ (i + 1) % 10007 := by
  rw [sf_mm, Nat.pow_succ, Nat.mul_assoc]
theorem sf_xW {post : Int32 → Prop} {v b e : Nat} (hv : v < 10007) (hb : b < 10007) (he : e < 7) (h : post (nI (v * b ^ e % 10007))) : wpX_timesPower post (nI v) (nI b) (nI e) := by
  refine loop_0 (fun n i (x : Int32) => wX_timesPower_5 post (nI b) (nI e) n x (nI i)) (fun i x => x = nI (v * b ^ i % 10007)) e (nI v) (by rw [Nat.pow_zero, Nat.mul_one, Nat.mod_eq_of_lt hv]) ?_ ?_
  · intro n x I
    subst I
    exact br_t (nI_le (Nat.le_refl _) (by omega)) h
  · intro n i x hi I hk
    subst I
    refine br_f (nI_ge hi (by omega)) ⟨sf_7, nm_r (sf_mu (sf_mlt _) hb) (nm_r (nI_1 i) (hk _ ?_))⟩
    rw [sf_pwr]
theorem sf_yW {post : Int32 → Prop} {fc : Int32} {pl tr a : Nat → Int32} {b e : Nat} (hb : b < 10007) (he : e < 7) (h : post (nI (b ^ e % 10007))) : wpY_raised post (fc, pl, tr, a) (nI b) (nI e) := by
  refine loop_0 (fun n i (x : Int32) => wY_raised_5 post (nI b) (nI e) fc pl tr a n x (nI i)) (fun i x => x = nI (1 * b ^ i % 10007)) e 1 (by rw [Nat.pow_zero]; rfl) ?_ ?_
  · intro n x I
    subst I
    rw [Nat.one_mul]
    exact br_t (nI_le (Nat.le_refl _) (by omega)) h
  · intro n i x hi I hk
    subst I
    refine br_f (nI_ge hi (by omega)) ⟨sf_7, nm_r (sf_mu (sf_mlt _) hb) (nm_r (nI_1 i) (hk _ ?_))⟩
    rw [sf_pwr]
def sf_mo (u v w t : Nat) : Nat := u ^ sf_ex 0 t * v ^ sf_ex 1 t * w ^ sf_ex 2 t
def sf_vl (f : Nat → Nat) (u v w t : Nat) : Nat := f t * sf_mo u v w t
theorem sf_ad {a b : Nat} (ha : a < 10007) (hb : b < 10007) : (nI a + nI b) - (nI a + nI b) / 10007 * 10007 = nI ((a + b) % 10007) := by
  rw [nI_add, sf_mod (by omega)]
theorem sf_m3 (F U V W : Nat) : F * U % 10007 * V % 10007 * W % 10007 = F * (U * V * W) % 10007 := by
  rw [sf_mm, Nat.mul_assoc (F * U % 10007), sf_mm, Nat.mul_assoc F, Nat.mul_assoc U]
theorem sf_xL {post : Int32 → Prop} {fc : Int32} {a : Nat → Int32} {s u v w : Nat} {f : Nat → Nat} (hs : s < 18) (hu : u < 10007) (hv : v < 10007) (hw : w < 10007) (H : sf_HX a s f) (B : sf_B f) (h : post (nI (sf_sum 343 (sf_vl f u v w) % 10007))) :
    ∃ n, wX_value_35 post (nI s) (nI u) (nI v) (nI w) fc a n 0 0 := by
  refine loop_0 (fun n i (x : Int32) => wX_value_35 post (nI s) (nI u) (nI v) (nI w) fc a n x (nI i)) (fun i x => x = nI (sf_sum i (sf_vl f u v w) % 10007)) 343 0 nI_0.symm ?_ ?_
  · intro n x I
    subst I
    exact br_t sf_le343 h
  · intro n i x hi I hk
    subst I
    have hf := B i hi
    have h0 := (sf_ex_ok 0 (by decide) i hi).1
    have h1 := (sf_ex_ok 1 (by decide) i hi).1
    have h2 := (sf_ex_ok 2 (by decide) i hi).1
    refine br_f (sf_nle343 hi) ⟨sf_inX hs hi, nm_r (sf_rdX H hs hi) (pk_eq (f i) 0 (fun z => ?_) (fun z => ?_) rfl rfl (by omega) (by omega))⟩
    · refine nm_r (nI_1 i) (hk _ (congrArg nI ?_))
      show _ = (sf_sum i (sf_vl f u v w) + f i * sf_mo u v w i) % 10007
      rw [z, Nat.zero_mul, Nat.add_zero]
    · refine sf_xE (s := 0) (by decide) hi (sf_xE (s := 1) (by decide) hi (sf_xE (s := 2) (by decide) hi (sf_xW hf hu h0 (sf_xW (sf_mlt _) hv h1 (sf_xW (sf_mlt _) hw h2 ⟨sf_7, nm_r (sf_ad (sf_mlt _) (sf_mlt _)) (nm_r (nI_1 i) (hk _ (congrArg nI ?_)))⟩)))))
      show _ = (sf_sum i (sf_vl f u v w) + f i * (u ^ sf_ex 0 i * v ^ sf_ex 1 i * w ^ sf_ex 2 i)) % 10007
      rw [sf_m3, ← Nat.add_mod]
theorem sf_yL {post : Int32 → Prop} {fc : Int32} {pl tr a : Nat → Int32} {s u v w : Nat} {f : Nat → Nat} (P : sf_PL pl tr) (hs : s < 24) (hu : u < 10007) (hv : v < 10007) (hw : w < 10007) (H : sf_HY a s f) (B : sf_B f) (S : sf_Sup 6 f) (h : post (nI (sf_sum 343 (sf_vl f u v w) % 10007))) :
    ∃ n, wY_value_38 post (nI s) (nI u) (nI v) (nI w) fc pl tr a n 0 0 := by
  rw [← sf_sum_re2 (sf_vl f u v w) (fun t ht hz => by unfold sf_vl; rw [sf_Sup_z S ht hz, Nat.zero_mul])] at h
  refine loop_0 (fun n i (x : Int32) => wY_value_38 post (nI s) (nI u) (nI v) (nI w) fc pl tr a n x (nI i)) (fun i x => x = nI (sf_sum i (fun b => sf_vl f u v w (sf_tri b)) % 10007)) 84 0 nI_0.symm ?_ ?_
  · intro n x I
    subst I
    exact br_t sf_le84 h
  · intro n i x hi I hk
    subst I
    have oi := (sf_tri_ok i hi).1
    have hf := sf_tB B hi
    have h0 := (sf_ex_ok 0 (by decide) _ oi).1
    have h1 := (sf_ex_ok 1 (by decide) _ oi).1
    have h2 := (sf_ex_ok 2 (by decide) _ oi).1
    have e1 : nI (u ^ sf_ex 0 (sf_tri i) % 10007) * nI (v ^ sf_ex 1 (sf_tri i) % 10007) - nI (u ^ sf_ex 0 (sf_tri i) % 10007) * nI (v ^ sf_ex 1 (sf_tri i) % 10007) / 10007 * 10007 = nI (u ^ sf_ex 0 (sf_tri i) * v ^ sf_ex 1 (sf_tri i) % 10007) := by
      rw [sf_mu (sf_mlt _) (sf_mlt _), ← Nat.mul_mod]
    have e2 : nI (u ^ sf_ex 0 (sf_tri i) * v ^ sf_ex 1 (sf_tri i) % 10007) * nI (w ^ sf_ex 2 (sf_tri i) % 10007) - nI (u ^ sf_ex 0 (sf_tri i) * v ^ sf_ex 1 (sf_tri i) % 10007) * nI (w ^ sf_ex 2 (sf_tri i) % 10007) / 10007 * 10007 = nI (sf_mo u v w (sf_tri i) % 10007) := by
      rw [sf_mu (sf_mlt _) (sf_mlt _), ← Nat.mul_mod]
      rfl
    have e3 : nI (sf_sum i (fun b => sf_vl f u v w (sf_tri b)) % 10007) + a (84 * nI s + nI i).toNatClampNeg * nI (sf_mo u v w (sf_tri i) % 10007)
        - (nI (sf_sum i (fun b => sf_vl f u v w (sf_tri b)) % 10007) + a (84 * nI s + nI i).toNatClampNeg * nI (sf_mo u v w (sf_tri i) % 10007)) / 10007 * 10007 = nI (sf_sum (i + 1) (fun b => sf_vl f u v w (sf_tri b)) % 10007) := by
      rw [sf_rdY H hs hi, sf_mac (sf_mlt _) hf (sf_mlt _), Nat.add_mod, Nat.mod_mod, sf_mm2, ← Nat.add_mod]
      rfl
    refine br_f (sf_nle84 hi) ⟨sf_in84 hi, sf_yE (s := 0) (by decide) oi (sf_tr P hi) ⟨sf_in84 hi, sf_yE (s := 1) (by decide) oi (sf_tr P hi) ⟨sf_in84 hi, sf_yE (s := 2) (by decide) oi (sf_tr P hi) (sf_yW hu h0 (sf_yW hv h1 (sf_yW hw h2 ⟨sf_7, sf_7, ?_⟩)))⟩⟩⟩
    rw [e1, e2]
    exact nm_e ⟨sf_inY hs hi, sf_7, nm_r e3 (nm_r (nI_1 i) (hk _ rfl))⟩
end
section
theorem sf_xJ {post : Int32 → Prop} {fc : Int32} {a : Nat → Int32} {x : Nat} {p : Nat → Nat → Nat} (hx : x < 18) (G : ∀ s, s ≤ x → sf_HX a s (p s) ∧ sf_B (p s))
    (hyes : (∃ y, y < x ∧ ∀ t, t < 343 → p y t = p x t) → post 1) (hno : (¬ ∃ y, y < x ∧ ∀ t, t < 343 → p y t = p x t) → post 0) : wpX_hasEarlierEqual post (fc, a) (nI x) := by
  refine loop_0 (fun n i (_ : Unit) => wX_hasEarlierEqual_2 post (nI x) fc a n (nI i)) (fun i _ => ¬ ∃ y, y < i ∧ ∀ t, t < 343 → p y t = p x t) x () (fun ⟨y, hy, _⟩ => absurd hy (Nat.not_lt_zero y)) ?_ ?_
  · intro n _ I
    exact br_t (nI_le (Nat.le_refl _) (by omega)) (hno I)
  · intro n i _ hi I hk
    have g1 := G i (by omega)
    have g2 := G x (Nat.le_refl _)
    refine br_f (nI_ge hi (by omega)) (sf_xR (by omega) hx g1.1 g2.1 g1.2 g2.2 (fun e => ?_) (fun e => ?_))
    · exact br_f sf_10 (hyes ⟨i, hi, e⟩)
    · refine br_t rfl (nm_r (nI_1 i) (hk () (fun ⟨y, hy, q⟩ => ?_)))
      by_cases yi : y = i
      · subst yi
        exact e q
      · exact I ⟨y, by omega, q⟩
theorem sf_yJ {post : Int32 → Prop} {J : Int32 → Int32 → Prop} {fc q : Int32} {pl tr b : Nat → Int32} {x : Nat} {p : Nat → Nat → Nat} (hx : x < 16) (G : ∀ s, s ≤ x → sf_HY b s (p s) ∧ sf_B (p s) ∧ sf_Sup 6 (p s))
    (hyes : (∃ y, y < x ∧ ∀ t, t < 343 → p y t = p x t) → J q (nI (x + 1))) (hno : (¬ ∃ y, y < x ∧ ∀ t, t < 343 → p y t = p x t) → J (q + 1) (nI (x + 1))) : ∃ n, wY_kinds_23 post J q (nI x) fc pl tr b n 1 0 := by
  refine loop_0 (fun n i (f : Int32) => wY_kinds_23 post J q (nI x) fc pl tr b n f (nI i)) (fun i f => (f = 1 ∧ ¬ ∃ y, y < i ∧ ∀ t, t < 343 → p y t = p x t) ∨ (f = 0 ∧ ∃ y, y < i ∧ ∀ t, t < 343 → p y t = p x t)) x 1 (Or.inl ⟨rfl, fun ⟨y, hy, _⟩ => absurd hy (Nat.not_lt_zero y)⟩) ?_ ?_
  · intro n f I
    refine br_t (nI_le (Nat.le_refl _) (by omega)) ?_
    rcases I with ⟨rfl, I⟩ | ⟨rfl, I⟩
    · exact br_f sf_10 (nm_e (nm_r (nI_1 x) (hno I)))
    · exact br_t rfl (nm_r (nI_1 x) (hyes I))
  · intro n i f hi I hk
    have g1 := G i (by omega)
    have g2 := G x (Nat.le_refl _)
    refine br_f (nI_ge hi (by omega)) (sf_yR (by omega) (by omega) g2.1 g1.1 g2.2.1 g1.2.1 g2.2.2 g1.2.2 (fun e => ?_) (fun e => ?_))
    · exact br_f sf_10 (nm_r (nI_1 i) (hk 0 (Or.inr ⟨rfl, i, by omega, fun t ht => (e t ht).symm⟩)))
    · refine br_t rfl (nm_r (nI_1 i) (hk f ?_))
      rcases I with ⟨ef, I⟩ | ⟨ef, y, hy, I⟩
      · refine Or.inl ⟨ef, fun ⟨y, hy, q⟩ => ?_⟩
        by_cases yi : y = i
        · subst yi
          exact e (fun t ht => (q t ht).symm)
        · exact I ⟨y, by omega, q⟩
      · exact Or.inr ⟨ef, y, by omega, I⟩
theorem sf_kd {c : Nat} {a pl tr b : Nat → Int32} {p : Nat → Nat → Nat} (hc : c ≤ 16) (G : ∀ s, s < c → sf_HX a s (p s) ∧ sf_HY b s (p s) ∧ sf_B (p s) ∧ sf_Sup 6 (p s)) :
    ∀ d x, x + d = c → ∀ q : Int32, ∃ r : Int32, (∀ post : Int32 → Prop, post r → wX_kinds_4 post (nI c) a (d + 1) q (nI x)) ∧ ∀ post : Int32 → Prop, post r → wY_kinds_4 post (nI c) pl tr b (d + 1) q (nI x) := by
  intro d
  induction d with
  | zero =>
    intro x hx q
    have h : nI c ≤ nI x := nI_le (by omega) (by omega)
    exact ⟨q, fun _ hp => br_t h hp, fun _ hp => br_t h hp⟩
  | succ d ih =>
    intro x hx q
    have h : ¬ nI c ≤ nI x := nI_ge (by omega) (by omega)
    have h16 : ¬ (16 : Int32) ≤ nI x := nI_ge (a := x) (b := 16) (by omega) (by decide)
    have GX : ∀ s, s ≤ x → sf_HX a s (p s) ∧ sf_B (p s) := fun s hs => ⟨(G s (by omega)).1, (G s (by omega)).2.2.1⟩
    have GY : ∀ s, s ≤ x → sf_HY b s (p s) ∧ sf_B (p s) ∧ sf_Sup 6 (p s) := fun s hs => (G s (by omega)).2
    by_cases E : ∃ y, y < x ∧ ∀ t, t < 343 → p y t = p x t
    · obtain ⟨r, h1, h2⟩ := ih (x + 1) (by omega) q
      exact ⟨r, fun post hp => br_f h (sf_xJ (by omega) GX (fun _ => br_f sf_10 (nm_r (nI_1 x) (h1 post hp))) (fun n => absurd E n)), fun post hp => br_f h (br_f h16 (sf_yJ (by omega) GY (fun _ => h2 post hp) (fun n => absurd E n)))⟩
    · obtain ⟨r, h1, h2⟩ := ih (x + 1) (by omega) (q + 1)
      exact ⟨r, fun post hp => br_f h (sf_xJ (by omega) GX (fun n => absurd n E) (fun _ => br_t rfl (nm_e (nm_r (nI_1 x) (h1 post hp))))), fun post hp => br_f h (br_f h16 (sf_yJ (by omega) GY (fun n => absurd n E) (fun _ => h2 post hp)))⟩
/-! Y's tables -/
theorem sf_yIn {post : SY → Prop} (h : ∀ pl tr, sf_PL pl tr → post (0, pl, tr, fun _ => 0)) : wpY_init post := by
  unfold wpY_init
  refine loop_0 (fun n i (s : Int32 × (Nat → Int32) × (Nat → Int32)) => wY_init_34 post 0 n s.1 (nI i) s.2.1 s.2.2 (fun _ => 0))
    (fun i s => s.1 = nI (sf_rk i) ∧ (∀ t, t < i → s.2.1 t = if sf_sz t ≤ 6 then nI (sf_rk t) else -1) ∧ ∀ k, k < sf_rk i → s.2.2 k = nI (sf_tri k)) 343 (0, (fun _ => 0), fun _ => 0) ⟨nI_0.symm, fun t ht => absurd ht (Nat.not_lt_zero t), fun t ht => absurd ht (Nat.not_lt_zero t)⟩ ?_ ?_
  · intro n s I
    refine br_t sf_le343 (h s.2.1 s.2.2 ⟨I.2.1, fun i hi => I.2.2 i ?_⟩)
    rw [sf_rk_343]
    exact hi
  · intro n i s hi I hk
    obtain ⟨x, pl, tr⟩ := s
    obtain ⟨I1, I2, I3⟩ := I
    dsimp only at I1 I2 I3
    subst I1
    have hin : vp_in (nI i) 343 := vp_in_nI hi (by decide)
    have hcl : (nI i).toNatClampNeg = i := nI_clamp (by omega)
    have hz := sf_sz_le i hi
    refine br_f (sf_nle343 hi) ⟨hin, nm_r (sf_upd_at hcl rfl) (sf_yD hi rfl ?_)⟩
    refine pk_lt 6 (sf_sz i) (fun z => ?_) (fun z => ?_) rfl rfl (by omega) (by omega)
    · have er : sf_rk (i + 1) = sf_rk i := if_neg (by omega)
      refine nm_r (nI_1 i) (hk (nI (sf_rk i), upd pl i (-1), tr) ⟨by rw [er], fun t ht => ?_, fun k hk' => I3 k (by rw [er] at hk'; exact hk')⟩)
      by_cases e : t = i
      · subst e
        rw [if_neg (by omega)]
        exact pk_us
      · show upd pl i (-1) t = _
        rw [pk_un e]
        exact I2 t (by omega)
    · have hr := sf_rk_ok i hi z
      have er : sf_rk (i + 1) = sf_rk i + 1 := if_pos z
      have hcr : (nI (sf_rk i)).toNatClampNeg = sf_rk i := nI_clamp (by omega)
      refine pk_le 84 (sf_rk i) (fun w => absurd w (by omega)) (fun _ => ?_) rfl rfl (by omega) (by omega)
      refine ⟨hin, nm_r (sf_upd_at hcl rfl) ⟨sf_in84 hr.1, nm_r (sf_upd_at hcr rfl) (nm_r (nI_1 _) (nm_r (nI_1 i) (hk (nI (sf_rk i + 1), upd (upd pl i (-1)) i (nI (sf_rk i)), upd tr (sf_rk i) (nI i)) ⟨by rw [er], fun t ht => ?_, fun k hk' => ?_⟩)))⟩⟩
      · by_cases e : t = i
        · subst e
          rw [if_pos z]
          exact pk_us
        · show upd (upd pl i (-1)) i (nI (sf_rk i)) t = _
          rw [pk_un e, pk_un e]
          exact I2 t (by omega)
      · by_cases e : k = sf_rk i
        · subst e
          rw [hr.2]
          exact pk_us
        · show upd tr (sf_rk i) (nI i) k = _
          rw [pk_un e]
          exact I3 k (by rw [er] at hk'; omega)
end
section
def sf_KY (a a' : Nat → Int32) : Prop := ∀ s, s < 16 → ∀ t, t < 84 → a' (84 * s + t) = a (84 * s + t)
theorem sf_KY_r {a : Nat → Int32} : sf_KY a a := fun _ _ _ _ => rfl
theorem sf_KY_t {a b c : Nat → Int32} {s : Nat} (h : sf_KY a b) (F : sf_FY s b c) (hs : 16 ≤ s) : sf_KY a c := fun s' h1 t ht => (F s' (by omega) t ht).trans (h s' h1 t ht)
theorem sf_HY_k {a a' : Nat → Int32} {s : Nat} {f : Nat → Nat} (h : sf_HY a s f) (F : sf_KY a a') (hs : s < 16) : sf_HY a' s f := fun t ht => (F s hs t ht).trans (h t ht)
theorem sf_i16 (i : Nat) : 1344 + nI i = nI (84 * 16 + i) := nI_add 1344 i
theorem sf_in16 {i : Nat} (h : i < 84) : vp_in (1344 + nI i) 2016 := by
  rw [sf_i16]
  exact vp_in_nI (by omega) (by decide)
theorem sf_cl16 {i : Nat} (h : i < 84) : (1344 + nI i).toNatClampNeg = 84 * 16 + i := by
  rw [sf_i16]
  exact nI_clamp (by omega)
theorem sf_i18 (i : Nat) : 1512 + nI i = nI (84 * 18 + i) := nI_add 1512 i
theorem sf_in18 {i : Nat} (h : i < 84) : vp_in (1512 + nI i) 2016 := by
  rw [sf_i18]
  exact vp_in_nI (by omega) (by decide)
theorem sf_cl18 {i : Nat} (h : i < 84) : (1512 + nI i).toNatClampNeg = 84 * 18 + i := by
  rw [sf_i18]
  exact nI_clamp (by omega)
/-- a row's cell at the place of the triple t -/
theorem sf_HY_u {a : Nat → Int32} {s t v : Nat} {f : Nat → Nat} (H : sf_HY a s f) (ht : t < 343) (hz : sf_sz t ≤ 6) : sf_HY (upd a (84 * s + sf_rk t) (nI v)) s (fun m => if m = t then v else f m) := by
  intro i hi
  have hr := sf_rk_ok t ht hz
  by_cases e : i = sf_rk t
  · subst e
    rw [pk_us, hr.2]
    exact (congrArg nI (if_pos rfl)).symm
  · rw [pk_un (by omega), H i hi]
    exact (congrArg nI (if_neg (fun q => e (sf_tri_inj hi q)))).symm
theorem sf_yCo {post : Int32 → SY → Prop} {pl tr a : Nat → Int32} {c x y : Nat} {X3 : Int32} {f g w : Nat → Nat} (hc : c < 16) (hx : x < 16) (hy : y < 16) (Hf : sf_HY a x f) (Hg : sf_HY a y g)
    (hw : ∀ t, t < 343 → ∀ v : Nat, v < 10007 → (v : Int) = (nI (f t) + X3 * nI (g t)).toInt % 10007 → v = w t)
    (h : ∀ a', sf_HY a' c w → sf_FY c a a' ∨ True → (∀ s, s < 16 → s ≠ c → ∀ t, t < 84 → a' (84 * s + t) = a (84 * s + t)) → post (nI c) (nI (c + 1), pl, tr, a')) :
    ∃ n, wY_combine_31 post (nI x) (nI y) X3 (nI c) n 0 pl tr a := by
  refine loop_0 (fun n i (b : Nat → Int32) => wY_combine_31 post (nI x) (nI y) X3 (nI c) n (nI i) pl tr b) (fun i b => (∀ t, t < i → b (84 * 16 + t) = nI (w (sf_tri t))) ∧ sf_FY 16 a b) 84 a ⟨fun t ht => absurd ht (Nat.not_lt_zero t), sf_FY_r⟩ ?_ ?_
  · intro n b I
    refine br_t sf_le84 (sf_yK hc I.1 (fun d Hd Fd => h d Hd (Or.inr trivial) (fun s h1 h2 t ht => ?_)))
    rw [Fd s h2 t ht, I.2 s (by omega) t ht]
  · intro n i b hi I hk
    refine br_f (sf_nle84 hi) ⟨sf_inY (by omega) hi, sf_inY (by omega) hi, ?_⟩
    rw [sf_rdY (sf_HY_f Hf I.2 (by omega)) (by omega) hi, sf_rdY (sf_HY_f Hg I.2 (by omega)) (by omega) hi]
    obtain ⟨v, hv, ev, _, hY⟩ := sf_red (nI (f (sf_tri i)) + X3 * nI (g (sf_tri i)))
    have e := hw _ (sf_tri_ok i hi).1 v hv ev
    refine hY _ _ _ _ _ ⟨sf_in16 hi, nm_r (sf_upd_at (sf_cl16 hi) (congrArg nI e)) (nm_r (nI_1 i) (hk _ ⟨fun t ht => ?_, sf_FY_t I.2 (sf_FY_u hi)⟩))⟩
    by_cases e : t = i
    · subst e
      exact pk_us
    · rw [pk_un (by omega)]
      exact I.1 t (by omega)
theorem sf_yPw {post : Int32 → SY → Prop} {pl tr a : Nat → Int32} {c x n d : Nat} {g : Nat → Nat} (P : sf_PL pl tr) (hc : c < 16) (hx : x < 16) (hn : n < 7) (Hg : sf_HY a x g) (Bg : sf_B g) (Sg : sf_Sup d g) (hd : n * d ≤ 6) (H16 : sf_HY a 16 sf_one)
    (h : ∀ a', sf_HY a' c (sf_pw g n) → (∀ s, s < 16 → s ≠ c → ∀ t, t < 84 → a' (84 * s + t) = a (84 * s + t)) → post (nI c) (nI (c + 1), pl, tr, a')) :
    ∃ m, wY_power_65 post (nI x) (nI n) m 0 (nI c) pl tr a := by
  refine loop_0 (fun m i (b : Nat → Int32) => wY_power_65 post (nI x) (nI n) m (nI i) (nI c) pl tr b) (fun i b => sf_HY b 16 (sf_pw g i) ∧ sf_KY a b) n a ⟨H16, sf_KY_r⟩ ?_ ?_
  · intro m b I
    refine br_t (nI_le (Nat.le_refl _) (by omega)) (sf_yK hc I.1 (fun e He Fe => h e He (fun s h1 h2 t ht => ?_)))
    rw [Fe s h2 t ht, I.2 s h1 t ht]
  · intro m i b hi I hk
    have h1 : (i + 1) * d ≤ n * d := Nat.mul_le_mul_right d hi
    rw [Nat.succ_mul] at h1
    refine br_f (nI_ge hi (by omega)) (sf_yT (tg := 17) (x := 16) P (by decide) (by decide) (by omega) (by decide) (by omega) I.1 (sf_HY_k Hg I.2 hx) (sf_pw_B g i) Bg (sf_pw_sup Sg i (by omega)) Sg (by omega) (fun b1 H1 F1 => ?_))
    exact sf_yC (s := 17) (z := 16) (by decide) (by decide) (by decide) H1 (fun b2 H2 F2 => nm_r (nI_1 i) (hk b2 ⟨H2, sf_KY_t (sf_KY_t I.2 F1 (by decide)) F2 (by decide)⟩))
theorem sf_ex_p : ∀ s, s < 3 → ∀ t, t < 343 → sf_sz t ≤ 5 → 0 < sf_ex s (t + sf_un s) := by decide +kernel
theorem sf_yDv {post : Int32 → SY → Prop} {pl tr a : Nat → Int32} {c x s : Nat} {f : Nat → Nat} (P : sf_PL pl tr) (hc : c < 16) (hx : x < 16) (hs : s < 3) (Hf : sf_HY a x f) (Bf : sf_B f) (Sf : sf_Sup 6 f) (H16 : sf_HY a 16 (fun _ => 0))
    (h : ∀ a', sf_HY a' c (sf_dv f s) → (∀ s, s < 16 → s ≠ c → ∀ t, t < 84 → a' (84 * s + t) = a (84 * s + t)) → post (nI c) (nI (c + 1), pl, tr, a')) :
    ∃ m, wY_derive_39 post (nI x) (nI s) (nI c) m 0 pl tr a := by
  have hu := sf_un_ok s hs
  refine loop_0 (fun m i (b : Nat → Int32) => wY_derive_39 post (nI x) (nI s) (nI c) m (nI i) pl tr b)
    (fun i b => sf_HY b 16 (fun m => if sf_sz m ≤ 5 ∧ sf_rk (m + sf_un s) < i then f (m + sf_un s) * sf_ex s (m + sf_un s) % 10007 else 0) ∧ sf_FY 16 a b) 84 a ⟨sf_HY_c H16 (fun t _ => (if_neg (by omega)).symm), sf_FY_r⟩ ?_ ?_
  · intro m b I
    refine br_t sf_le84 (sf_yK hc (sf_HY_c I.1 (g := sf_dv f s) (fun t ht => ?_)) (fun e He Fe => h e He (fun s h1 h2 t ht => ?_)))
    · unfold sf_dv
      by_cases z : sf_sz t ≤ 5
      · have h1 := sf_ex_dw s hs t ht z
        have h2 := sf_rk_ok _ h1.1 (by omega)
        rw [if_pos ⟨z, h2.1⟩, if_pos ⟨h1.1, sf_ex_p s hs t ht z⟩]
      · rw [if_neg (fun q => z q.1)]
        by_cases q : t + sf_un s < 343 ∧ 0 < sf_ex s (t + sf_un s)
        · rw [if_pos q]
          have h3 := (sf_ex_dv s hs _ q.1 q.2).2
          rw [Nat.add_sub_cancel] at h3
          rw [sf_Sup_z Sf q.1 (by omega), Nat.zero_mul]
        · rw [if_neg q]
    · rw [Fe s h2 t ht, I.2 s (by omega) t ht]
  · intro m i b hi I hk
    have oi := sf_tri_ok i hi
    have he := sf_ex_ok s hs _ oi.1
    refine br_f (sf_nle84 hi) ⟨sf_in84 hi, sf_yE hs oi.1 (sf_tr P hi) (pk_le (sf_ex s (sf_tri i)) 0 (fun z => ?_) (fun z => ?_) rfl rfl (by omega) (by omega))⟩
    · refine nm_r (nI_1 i) (hk b ⟨sf_HY_c I.1 (fun t ht => ?_), I.2⟩)
      by_cases q : sf_sz t ≤ 5 ∧ sf_rk (t + sf_un s) < i
      · rw [if_pos q, if_pos ⟨q.1, by omega⟩]
      · rw [if_neg q, if_neg]
        intro q2
        have h1 := sf_ex_dw s hs t ht q2.1
        have h2 := sf_rk_ok _ h1.1 (by omega)
        have h3 : sf_rk (t + sf_un s) = i := by omega
        rw [h3] at h2
        have h4 := sf_ex_p s hs t ht q2.1
        rw [← h2.2] at h4
        omega
    · have h1 := sf_ex_dv s hs _ oi.1 z
      have et : tr (nI i).toNatClampNeg - nI (sf_un s) = nI (sf_tri i - sf_un s) := by
        rw [sf_tr P hi, pk_sub h1.1]
      have hv : vp_in (tr (nI i).toNatClampNeg - nI (sf_un s)) 343 := by
        rw [et]
        exact vp_in_nI (by omega) (by decide)
      have hr := sf_rk_ok (sf_tri i - sf_un s) (by omega) (by omega)
      have ep := sf_pl P (t := sf_tri i - sf_un s) (by omega) (by omega) et
      have hin : vp_in (1344 + pl (tr (nI i).toNatClampNeg - nI (sf_un s)).toNatClampNeg) 2016 := by
        rw [ep]
        exact sf_in16 hr.1
      have hcl : (1344 + pl (tr (nI i).toNatClampNeg - nI (sf_un s)).toNatClampNeg).toNatClampNeg = 84 * 16 + sf_rk (sf_tri i - sf_un s) := by
        rw [ep]
        exact sf_cl16 hr.1
      have hval : b (84 * nI x + nI i).toNatClampNeg * nI (sf_ex s (sf_tri i)) - b (84 * nI x + nI i).toNatClampNeg * nI (sf_ex s (sf_tri i)) / 10007 * 10007 = nI (f (sf_tri i) * sf_ex s (sf_tri i) % 10007) := by
        rw [sf_rdY (sf_HY_f Hf I.2 (by omega)) (by omega) hi]
        exact sf_mu (sf_tB Bf hi) (by omega)
      refine ⟨sf_in84 hi, sf_yU hs ⟨hv, sf_inY (by omega) hi, sf_7, hin, nm_r (sf_upd_at hcl hval) (nm_r (nI_1 i) (hk _ ⟨?_, sf_FY_t I.2 (sf_FY_u hr.1)⟩))⟩⟩
      refine sf_HY_c (sf_HY_u I.1 (by omega) (by omega)) (fun t ht => ?_)
      by_cases e : t = sf_tri i - sf_un s
      · subst e
        have e2 : sf_tri i - sf_un s + sf_un s = sf_tri i := by omega
        rw [if_pos rfl, e2, oi.2.2, if_pos (by omega)]
      · rw [if_neg e]
        by_cases q : sf_sz t ≤ 5 ∧ sf_rk (t + sf_un s) < i
        · rw [if_pos q, if_pos ⟨q.1, by omega⟩]
        · rw [if_neg q, if_neg]
          intro q2
          have h3 := sf_ex_dw s hs t ht q2.1
          have h2 := sf_rk_ok _ h3.1 (by omega)
          have h4 : sf_rk (t + sf_un s) = i := by omega
          rw [h4] at h2
          omega
/-! substitution -/
theorem sf_y18 {post : SY → Prop} {fc : Int32} {pl tr a : Nat → Int32} {f g : Nat → Nat} (H16 : sf_HY a 16 f) (H18 : sf_HY a 18 g) (Bf : sf_B f) (Bg : sf_B g) (h : ∀ a', sf_HY a' 18 (fun m => (g m + f m) % 10007) → sf_FY 18 a a' → post (fc, pl, tr, a')) : wpY_addTo18 post (fc, pl, tr, a) := by
  refine loop_0 (fun n i (b : Nat → Int32) => wY_addTo18_2 post fc n (nI i) pl tr b) (fun i b => (∀ t, t < 84 → b (84 * 18 + t) = nI (if t < i then (g (sf_tri t) + f (sf_tri t)) % 10007 else g (sf_tri t))) ∧ sf_FY 18 a b) 84 a ⟨fun t ht => (H18 t ht).trans (congrArg nI (if_neg (by omega)).symm), sf_FY_r⟩ ?_ ?_
  · intro n b I
    exact br_t sf_le84 (h b (fun t ht => (I.1 t ht).trans (congrArg nI (if_pos ht))) I.2)
  · intro n i b hi I hk
    have e18 : b (1512 + nI i).toNatClampNeg = nI (g (sf_tri i)) := by
      rw [sf_cl18 hi, I.1 i hi, if_neg (by omega)]
    have e16 : b (1344 + nI i).toNatClampNeg = nI (f (sf_tri i)) := by
      rw [sf_cl16 hi]
      exact sf_HY_f H16 I.2 (by decide) i hi
    have hv : b (1512 + nI i).toNatClampNeg + b (1344 + nI i).toNatClampNeg - (b (1512 + nI i).toNatClampNeg + b (1344 + nI i).toNatClampNeg) / 10007 * 10007 = nI ((g (sf_tri i) + f (sf_tri i)) % 10007) := by
      rw [e18, e16]
      exact sf_ad (sf_tB Bg hi) (sf_tB Bf hi)
    refine br_f (sf_nle84 hi) ⟨sf_in18 hi, sf_in16 hi, sf_7, sf_in18 hi, nm_r (sf_upd_at (sf_cl18 hi) hv) (nm_r (nI_1 i) (hk _ ⟨fun t ht => ?_, sf_FY_t I.2 (sf_FY_u hi)⟩))⟩
    by_cases e : t = i
    · subst e
      rw [pk_us, if_pos (by omega)]
    · rw [pk_un (by omega), I.1 t ht]
      by_cases e2 : t < i
      · rw [if_pos e2, if_pos (by omega)]
      · rw [if_neg e2, if_neg (by omega)]
theorem sf_nI0m (x : Int32) : nI 0 * x = 0 := by
  rw [nI_0, Int32.zero_mul]
theorem sf_98 {post : Int32 → SY → Prop} {J : Int32 → Prop} {fc x4 z0 z1 : Int32} {pl tr a : Nat → Int32} {x y s h i : Nat} {f : Nat → Nat} (hx : x < 16) (hs : s < 3) (hh : h < 8) (Hf : sf_HY a x f) (Bf : sf_B f) (hi : i < 84)
    (hz : z1 + z0 = (nI (sf_sz (sf_tri i)) - nI (sf_ex s (sf_tri i))) + nI (sf_ex s (sf_tri i)) * sf_I h) (hok : sf_ok f s h (sf_tri i) → J (nI (i + 1))) (hno : ¬ sf_ok f s h (sf_tri i) → post (-3) (fc, pl, tr, a)) :
    wY_substitute_98 post J (nI x) (nI s) (nI y) x4 (nI i) z0 z1 fc pl tr a := by
  have oi := sf_tri_ok i hi
  have he := sf_ex_ok s hs _ oi.1
  have hf := sf_tB Bf hi
  have ea := sf_rdY Hf (by omega) hi
  refine nm_r hz ⟨sf_inY (by omega) hi, ?_⟩
  by_cases z : f (sf_tri i) = 0
  · exact br_t (by rw [ea, z]; rfl) (nm_r (nI_1 i) (hok (fun q => absurd z q)))
  · refine br_f (by rw [ea]; exact nI_ne0 (by omega) (by omega)) ?_
    have h2 := sf_ok_i (sf_sz (sf_tri i)) (sf_sz_le _ oi.1) (sf_ex s (sf_tri i)) he.1 he.2.1 h hh
    by_cases z2 : sf_sz (sf_tri i) - sf_ex s (sf_tri i) + sf_ex s (sf_tri i) * h ≤ 6 + sf_ex s (sf_tri i)
    · exact br_t (h2.mpr z2) (nm_r (nI_1 i) (hok (fun _ => z2)))
    · exact br_f (fun q => z2 (h2.mp q)) (hno (fun q => z2 (q z)))
theorem sf_y49 {post : Int32 → SY → Prop} {fc : Int32} {pl tr a : Nat → Int32} {x y s h : Nat} {f : Nat → Nat} (P : sf_PL pl tr) (hx : x < 16) (hs : s < 3) (hh : h < 8) (Hf : sf_HY a x f) (Bf : sf_B f) (Sf : sf_Sup 6 f)
    (hall : (∀ t, t < 343 → sf_ok f s h t) → wpY_zero (fun u => match u with | (f_count_32, a_place_33, a_triple_34, a_table_35) => (∃ n141 : Nat, wY_substitute_141 post (nI x) (nI s) (nI y) n141 0 f_count_32 a_place_33 a_triple_34 a_table_35)) (fc, pl, tr, a) 18)
    (hnot : (¬ ∀ t, t < 343 → sf_ok f s h t) → post (-3) (fc, pl, tr, a)) : ∃ n, wY_substitute_49 post (nI x) (nI s) (nI y) (sf_I h) fc pl tr a n 0 := by
  refine loop_0 (fun n i (_ : Unit) => wY_substitute_49 post (nI x) (nI s) (nI y) (sf_I h) fc pl tr a n (nI i)) (fun i _ => ∀ t, t < i → sf_ok f s h (sf_tri t)) 84 () (fun t ht => absurd ht (Nat.not_lt_zero t)) ?_ ?_
  · intro n _ I
    refine br_t sf_le84 (hall (fun t ht => ?_))
    by_cases z : sf_sz t ≤ 6
    · have h1 := sf_rk_ok t ht z
      have h2 := I _ h1.1
      rw [h1.2] at h2
      exact h2
    · exact fun q => absurd (sf_Sup_z Sf ht (by omega)) q
  · intro n i _ hi I hk
    have oi := sf_tri_ok i hi
    have he := sf_ex_ok s hs _ oi.1
    refine br_f (sf_nle84 hi) ⟨sf_in84 hi, sf_yE hs oi.1 (sf_tr P hi) ⟨sf_in84 hi, sf_yD oi.1 (sf_tr P hi) ?_⟩⟩
    refine pk_eq (sf_ex s (sf_tri i)) 0 (fun z => ?_) (fun z => ?_) rfl rfl (by omega) (by omega)
    · refine sf_98 hx hs hh Hf Bf hi ?_ (fun q => hk () (lt_s I q)) (fun q => hnot (fun H => q (H _ oi.1)))
      rw [z, sf_nI0m]
    · exact sf_98 hx hs hh Hf Bf hi rfl (fun q => hk () (lt_s I q)) (fun q => hnot (fun H => q (H _ oi.1)))
end
section
theorem sf_y141 {post : Int32 → SY → Prop} {pl tr a : Nat → Int32} {c x y s d : Nat} {f g : Nat → Nat} (P : sf_PL pl tr) (hc : c < 16) (hx : x < 16) (hy : y < 16) (hs : s < 3) (Hf : sf_HY a x f) (Hg : sf_HY a y g) (Bf : sf_B f) (Bg : sf_B g) (Sf : sf_Sup 6 f) (Sg : sf_Sup d g)
    (hok : ∀ t, t < 343 → f t ≠ 0 → sf_sz t - sf_ex s t + sf_ex s t * d ≤ 6) (H18 : sf_HY a 18 (fun _ => 0))
    (h : ∀ a', sf_HY a' c (sf_sb f g s) → (∀ s, s < 16 → s ≠ c → ∀ t, t < 84 → a' (84 * s + t) = a (84 * s + t)) → post (nI c) (nI (c + 1), pl, tr, a')) :
    ∃ n, wY_substitute_141 post (nI x) (nI s) (nI y) n 0 (nI c) pl tr a := by
  refine loop_0 (fun n i (b : Nat → Int32) => wY_substitute_141 post (nI x) (nI s) (nI y) n (nI i) (nI c) pl tr b) (fun i b => sf_HY b 18 (fun m => sf_sum i (fun j => sf_T f g s (sf_tri j) m) % 10007) ∧ sf_KY a b) 84 a ⟨H18, sf_KY_r⟩ ?_ ?_
  · intro n b I
    refine br_t sf_le84 (sf_yC (s := 18) (z := 16) (by decide) (by decide) (by decide) I.1 (fun b1 H1 F1 => sf_yK hc (sf_HY_c H1 (g := sf_sb f g s) (fun t _ => sf_sb_y Sf t)) (fun b2 H2 F2 => h b2 H2 (fun s h1 h2 t ht => ?_))))
    rw [F2 s h2 t ht, F1 s (by omega) t ht, I.2 s h1 t ht]
  · intro n i b hi I hk
    have oi := sf_tri_ok i hi
    have he := sf_ex_ok s hs _ oi.1
    have hf := sf_tB Bf hi
    have ea := sf_rdY (sf_HY_k Hf I.2 hx) (by omega) hi
    refine br_f (sf_nle84 hi) ⟨sf_inY (by omega) hi, ?_⟩
    by_cases z : f (sf_tri i) = 0
    · refine br_t (by rw [ea, z]; rfl) (nm_r (nI_1 i) (hk b ⟨sf_HY_c I.1 (fun m _ => ?_), I.2⟩))
      show _ = (sf_sum i (fun j => sf_T f g s (sf_tri j) m) + sf_T f g s (sf_tri i) m) % 10007
      rw [sf_T_z z, Nat.add_zero]
    · have hlim := hok _ oi.1 z
      have hs0 := sf_ex_sub s hs _ oi.1
      refine br_f (by rw [ea]; exact nI_ne0 (by omega) (by omega)) ⟨sf_in84 hi, sf_yE hs oi.1 (sf_tr P hi) (sf_y0 (s := 16) (by decide) (fun b1 H1 F1 => ?_))⟩
      have et : tr (nI i).toNatClampNeg - nI (sf_ex s (sf_tri i)) * nI (sf_un s) = nI (sf_tri i - sf_ex s (sf_tri i) * sf_un s) := by
        rw [sf_tr P hi, pk_mul, pk_sub he.2.2]
      have K1 : sf_KY a b1 := sf_KY_t I.2 F1 (by decide)
      have hsz : sf_sz (sf_tri i - sf_ex s (sf_tri i) * sf_un s) ≤ 6 := by omega
      have hlt : sf_tri i - sf_ex s (sf_tri i) * sf_un s < 343 := by omega
      have hr := sf_rk_ok _ hlt hsz
      have ep := sf_pl P hlt hsz et
      have hv : vp_in (tr (nI i).toNatClampNeg - nI (sf_ex s (sf_tri i)) * nI (sf_un s)) 343 := by
        rw [et]
        exact vp_in_nI hlt (by decide)
      have hin : vp_in (1344 + pl (tr (nI i).toNatClampNeg - nI (sf_ex s (sf_tri i)) * nI (sf_un s)).toNatClampNeg) 2016 := by
        rw [ep]
        exact sf_in16 hr.1
      have hcl : (1344 + pl (tr (nI i).toNatClampNeg - nI (sf_ex s (sf_tri i)) * nI (sf_un s)).toNatClampNeg).toNatClampNeg = 84 * 16 + sf_rk (sf_tri i - sf_ex s (sf_tri i) * sf_un s) := by
        rw [ep]
        exact sf_cl16 hr.1
      refine ⟨sf_in84 hi, sf_yU hs ⟨hv, sf_inY (by omega) hi, hin, nm_r (sf_upd_at hcl (sf_rdY (sf_HY_k Hf K1 hx) (by omega) hi)) ?_⟩⟩
      have H2 := sf_HY_u (v := f (sf_tri i)) H1 hlt hsz
      have F2 : sf_FY 16 b1 (upd b1 (84 * 16 + sf_rk (sf_tri i - sf_ex s (sf_tri i) * sf_un s)) (nI (f (sf_tri i)))) := sf_FY_u hr.1
      generalize upd b1 (84 * 16 + sf_rk (sf_tri i - sf_ex s (sf_tri i) * sf_un s)) (nI (f (sf_tri i))) = b2 at H2 F2
      refine loop_0 (fun n' k (b' : Nat → Int32) => wY_substitute_228 post (wY_substitute_141 post (nI x) (nI s) (nI y) n) (nI x) (nI s) (nI y) (nI i) (nI (sf_ex s (sf_tri i))) n' (nI k) (nI c) pl tr b')
        (fun k b' => sf_HY b' 16 (sf_sc (f (sf_tri i)) (sf_tri i - sf_ex s (sf_tri i) * sf_un s) (sf_pw g k)) ∧ sf_HY b' 18 (fun m => sf_sum i (fun j => sf_T f g s (sf_tri j) m) % 10007) ∧ sf_KY a b') (sf_ex s (sf_tri i)) b2
        ⟨sf_HY_c H2 (fun m _ => (sf_sc_one hf m).symm), sf_HY_f (sf_HY_f I.1 F1 (by decide)) F2 (by decide), sf_KY_t K1 F2 (by decide)⟩ ?_ ?_
      · intro n' b' J
        refine br_t (nI_le (Nat.le_refl _) (by omega)) (sf_y18 J.1 J.2.1 (sf_sc_B _ _ _) (fun _ _ => sf_mlt _) (fun b3 H3 F3 => nm_r (nI_1 i) (hk b3 ⟨sf_HY_c H3 (fun m _ => ?_), sf_KY_t J.2.2 F3 (by decide)⟩)))
        exact sf_amt _ _
      · intro n' k b' hk1 J hk'
        have h1 : (k + 1) * d ≤ sf_ex s (sf_tri i) * d := Nat.mul_le_mul_right d hk1
        rw [Nat.succ_mul] at h1
        refine br_f (nI_ge hk1 (by omega)) (sf_yT (tg := 17) (x := 16) P (by decide) (by decide) (by omega) (by decide) (by omega) J.1 (sf_HY_k Hg J.2.2 hy) (sf_sc_B _ _ _) Bg (sf_sc_sup (sf_pw_sup Sg k (by omega)) hlt (by omega)) Sg (by omega) (fun b3 H3 F3 => ?_))
        refine sf_yC (s := 17) (z := 16) (by decide) (by decide) (by decide) H3 (fun b4 H4 F4 => nm_r (nI_1 k) (hk' b4 ⟨sf_HY_c H4 (fun m _ => ?_), sf_HY_f (sf_HY_f J.2.1 F3 (by decide)) F4 (by decide), sf_KY_t (sf_KY_t J.2.2 F3 (by decide)) F4 (by decide)⟩))
        exact sf_pm_sc _ _ _ _ _
/-! the relation -/
def sf_Gd (a b : Nat → Int32) (s : Nat) (f : Nat → Nat) : Prop := sf_HX a s f ∧ sf_HY b s f ∧ sf_B f ∧ sf_Sup 6 f
def i_Rel (k : Nat) (u : SX) (v : SY) : Prop := ∃ (c : Nat) (p : Nat → Nat → Nat) (a pl tr b : Nat → Int32), c ≤ 16 ∧ u = (nI c, a) ∧ v = (nI c, pl, tr, b) ∧ sf_PL pl tr ∧ ∀ s, s < c → sf_Gd a b s (p s)
theorem i_up {k : Nat} {u : SX} {v : SY} (h : i_Rel k u v) : i_Rel (k + 5) u v := h
theorem sf_new {k c : Nat} {p : Nat → Nat → Nat} {a a' pl tr b b' : Nat → Int32} {f : Nat → Nat} (hc : c < 16) (P : sf_PL pl tr) (G : ∀ s, s < c → sf_Gd a b s (p s)) (K : ∀ s, s < c → ∀ t, t < 343 → a' (s * 343 + t) = a (s * 343 + t)) (H : sf_HX a' c f)
    (L : ∀ s, s < 16 → s ≠ c → ∀ t, t < 84 → b' (84 * s + t) = b (84 * s + t)) (M : sf_HY b' c f) (B : sf_B f) (S : sf_Sup 6 f) : i_Rel k (nI (c + 1), a') (nI (c + 1), pl, tr, b') := by
  refine ⟨c + 1, fun s => if s = c then f else p s, a', pl, tr, b', hc, rfl, rfl, P, fun s hs => ?_⟩
  by_cases e : s = c
  · subst e
    dsimp only
    rw [if_pos rfl]
    exact ⟨H, M, B, S⟩
  · dsimp only
    rw [if_neg e]
    have g := G s (by omega)
    exact ⟨fun t ht => (K s (by omega) t ht).trans (g.1 t ht), fun t ht => (L s (by omega) e t ht).trans (g.2.1 t ht), g.2.2⟩
theorem sf_KF {c : Nat} {a a' : Nat → Int32} (F : sf_FX c a a') : ∀ s, s < c → ∀ t, t < 343 → a' (s * 343 + t) = a (s * 343 + t) := fun s hs t ht => F s (by omega) t ht
theorem sf_trm_B {t v : Nat} (hv : v < 10007) : sf_B (fun m => if m = t then v else 0) := by
  intro m _
  dsimp only
  split <;> omega
theorem sf_trm_S {t v : Nat} (ht : sf_sz t ≤ 6) : sf_Sup 6 (fun m => if m = t then v else 0) := by
  intro m _ h
  by_cases e : m = t
  · subst e
    exact ht
  · exact absurd (if_neg e) h
theorem sf_c16 {c : Nat} (h : c ≤ 16) : c < 16 ∨ c = 16 := by omega
theorem sf_dd : ∀ h, h < 8 → ∀ e, e < 8 → (sf_I h + sf_I e ≤ 6 ↔ h + e ≤ 8) := by decide +kernel
theorem sf_dn : ∀ h, h < 8 → (sf_I h < 0 ↔ h = 0) := by decide +kernel
theorem sf_dp : ∀ h, h < 8 → ∀ n, n < 7 → (sf_I h * nI n ≤ 6 ↔ n * (h - 1) ≤ 6) := by decide +kernel
theorem sf_okd {f : Nat → Nat} {s h : Nat} (S : sf_Sup 6 f) (H : ∀ t, t < 343 → sf_ok f s h t) : ∀ t, t < 343 → f t ≠ 0 → sf_sz t - sf_ex s t + sf_ex s t * (h - 1) ≤ 6 := by
  intro t ht z
  have h1 := H t ht z
  have h2 := S t ht z
  cases h with
  | zero =>
    rw [Nat.zero_sub, Nat.mul_zero]
    omega
  | succ h =>
    rw [Nat.mul_succ] at h1
    rw [Nat.add_sub_cancel]
    omega
theorem sf_wA {f g : Nat} (hf : f < 10007) (hg : g < 10007) (v : Nat) (hv : v < 10007) (e : (v : Int) = (nI f + 1 * nI g).toInt % 10007) : v = (f + 1 * g) % 10007 := by
  rw [Int32.one_mul, nI_add, nI_toInt (by omega)] at e
  omega
theorem sf_sti {a b : Nat} (ha : a < 2 ^ 30) (hb : b < 2 ^ 30) : (nI a - nI b).toInt = (a : Int) - b := by
  rw [Int32.toInt_sub, nI_toInt (by omega), nI_toInt (by omega)]
  exact Int.bmod_eq_of_le (by omega) (by omega)
theorem sf_wS {f g : Nat} (hf : f < 10007) (hg : g < 10007) (v : Nat) (hv : v < 10007) (e : (v : Int) = (nI f + (-1) * nI g).toInt % 10007) : v = (f + 10006 * g) % 10007 := by
  rw [show nI f + (-1) * nI g = nI f - nI g by grind, sf_sti (by omega) (by omega)] at e
  omega
end
section
theorem i_vc0 : wpX_init (fun u => wpY_init (fun v => i_Rel 0 u v)) := by
  unfold wpX_init
  exact sf_yIn (fun pl tr P => ⟨0, fun _ _ => 0, fun _ => 0, pl, tr, fun _ => 0, by decide, rfl, rfl, P, fun s hs => absurd hs (Nat.not_lt_zero s)⟩)
theorem i_vc_clear {k : Nat} {u : SX} {v : SY} (I : i_Rel k u v) (hk : k + 5 ≤ 2560) : wpX_clear (fun r u' => wpY_clear (fun r' v' => r' = r ∧ i_Rel (k + 5) u' v') v) u := by
  obtain ⟨c, p, a, pl, tr, b, hc, rfl, rfl, P, G⟩ := I
  exact ⟨rfl, 0, p, a, pl, tr, b, by decide, rfl, rfl, P, fun s hs => absurd hs (Nat.not_lt_zero s)⟩
theorem i_vc_symbol {k : Nat} {u : SX} {v : SY} (I : i_Rel k u v) (hk : k + 5 ≤ 2560) (v1 : Int32) : wpX_symbol (fun r u' => wpY_symbol (fun r' v' => r' = r ∧ i_Rel (k + 5) u' v') v v1) u v1 := by
  have J := i_up I
  obtain ⟨c, p, a, pl, tr, b, hc, rfl, rfl, P, G⟩ := I
  unfold wpX_symbol wpY_symbol
  rcases sf_sy v1 with hb | ⟨s, hs, rfl⟩
  · exact sf_xY_f hb (br_t rfl (sf_yY_f hb (br_f sf_10 ⟨rfl, J⟩)))
  · rcases sf_c16 hc with h | h
    · have hu := sf_un_ok s hs
      have hr := sf_rk_ok (sf_un s) (by omega) (by omega)
      refine sf_xY_t hs (br_f sf_10 (sf_xF_0 h (br_t rfl (sf_xU hs (sf_xT (c := 1) (by omega) (by omega) (fun a' H F => nm_r (nI_1 c) ?_))))))
      refine sf_yY_t hs (br_t rfl (sf_yF_0 h (br_t rfl (sf_y0 (s := 16) (by decide) (fun b1 H1 F1 => sf_yU hs ⟨vp_in_nI (by omega) (by decide), ?_⟩)))))
      have ep := sf_pl P (t := sf_un s) (by omega) (by omega) rfl
      have hin : vp_in (1344 + pl (nI (sf_un s)).toNatClampNeg) 2016 := by
        rw [ep]
        exact sf_in16 hr.1
      have hcl : (1344 + pl (nI (sf_un s)).toNatClampNeg).toNatClampNeg = 84 * 16 + sf_rk (sf_un s) := by
        rw [ep]
        exact sf_cl16 hr.1
      refine ⟨hin, nm_r (sf_upd_at hcl rfl) (sf_yK h (sf_HY_u (v := 1) H1 (by omega) (by omega)) (fun b2 H2 F2 => ⟨rfl, sf_new h P G (sf_KF F) H (fun s' h1 h2 t ht => ?_) H2 (sf_trm_B (by decide)) (sf_trm_S (by omega))⟩))⟩
      rw [F2 s' h2 t ht, sf_FY_u hr.1 s' (by omega) t ht, F1 s' (by omega) t ht]
    · exact sf_xY_t hs (br_f sf_10 (sf_xF_1 h (br_f sf_10 (sf_yY_t hs (br_t rfl (sf_yF_1 h (br_f sf_10 ⟨rfl, J⟩)))))))
theorem i_vc_number {k : Nat} {u : SX} {v : SY} (I : i_Rel k u v) (hk : k + 5 ≤ 2560) (v1 : Int32) : wpX_number (fun r u' => wpY_number (fun r' v' => r' = r ∧ i_Rel (k + 5) u' v') v v1) u v1 := by
  have J := i_up I
  obtain ⟨c, p, a, pl, tr, b, hc, rfl, rfl, P, G⟩ := I
  unfold wpX_number wpY_number
  rcases sf_c16 hc with h | h
  · obtain ⟨w, hw, _, hX, hY⟩ := sf_red v1
    refine sf_xF_0 h (br_t rfl (hX _ (sf_xT (t := 0) (by omega) (by decide) (fun a' H F => nm_r (nI_1 c) ?_))))
    refine sf_yF_0 h (br_t rfl (sf_y0 (s := 16) (by decide) (fun b1 H1 F1 => hY _ _ _ _ _ (nm_e ?_))))
    have H2 : sf_HY (upd b1 1344 (nI w)) 16 (fun m => if m = 0 then w else 0) := sf_HY_u (t := 0) (v := w) H1 (by decide) (by decide)
    have F2 : sf_FY 16 b1 (upd b1 1344 (nI w)) := sf_FY_u (t := 0) (by decide)
    refine sf_yK h H2 (fun b3 H3 F3 => ⟨rfl, sf_new h P G (sf_KF F) H (fun s' h1 h2 t ht => ?_) H3 (sf_trm_B hw) (sf_trm_S (by decide))⟩)
    rw [F3 s' h2 t ht, F2 s' (by omega) t ht, F1 s' (by omega) t ht]
  · exact sf_xF_1 h (br_f sf_10 (sf_yF_1 h (br_f sf_10 ⟨rfl, J⟩)))
theorem sf_ms {k c K : Nat} {X3 : Int32} {p : Nat → Nat → Nat} {a pl tr b : Nat → Int32} (hK : K < 10007) (hw : ∀ f g : Nat, f < 10007 → g < 10007 → ∀ v : Nat, v < 10007 → (v : Int) = (nI f + X3 * nI g).toInt % 10007 → v = (f + K * g) % 10007)
    (hc : c ≤ 16) (P : sf_PL pl tr) (G : ∀ s, s < c → sf_Gd a b s (p s)) (v1 v2 : Int32) : wpX_makeSum (fun r u' => wpY_combine (fun r' v' => r' = r ∧ i_Rel k u' v') (nI c, pl, tr, b) v1 v2 X3) (nI c, a) v1 v2 (nI K) := by
  have J : i_Rel k (nI c, a) (nI c, pl, tr, b) := ⟨c, p, a, pl, tr, b, hc, rfl, rfl, P, G⟩
  unfold wpX_makeSum wpY_combine
  rcases sf_ixc v1 hc with hb | ⟨x, hx, rfl⟩
  · exact sf_xI_f hb (br_t rfl (sf_yB_f hb (br_f sf_10 ⟨rfl, J⟩)))
  · rcases sf_ixc v2 hc with hb | ⟨y, hy, rfl⟩
    · exact sf_xI_t hc hx (br_f sf_10 (sf_xI_f hb (br_t rfl (sf_yB_t hc hx (br_t rfl (sf_yB_f hb (br_f sf_10 ⟨rfl, J⟩)))))))
    · rcases sf_c16 hc with h | h
      · obtain ⟨HXx, HYx, Bx, Sx⟩ := G x hx
        obtain ⟨HXy, HYy, By, Sy⟩ := G y hy
        refine sf_xI_t hc hx (br_f sf_10 (sf_xI_t hc hy (br_f sf_10 (sf_xF_0 h (br_t rfl (sf_x0 (by omega) (fun a1 H1 F1 => ?_)))))))
        refine sf_xM (k := 1) (sh := 0) (by omega) (by omega) (by omega) (by decide) (by decide) rfl H1 (sf_HX_f HXx F1 (by omega)) (fun _ _ => by decide) Bx (fun a2 H2 F2 => ?_)
        have H2' : sf_HX a2 c (p x) := sf_HX_c H2 (fun t ht => by
          rw [if_pos (Nat.zero_le _), Nat.one_mul, Nat.zero_add, Nat.sub_zero]
          exact Nat.mod_eq_of_lt (Bx t ht))
        refine sf_xM (k := K) (sh := 0) (by omega) (by omega) (by omega) hK (by decide) rfl H2' (sf_HX_f (sf_HX_f HXy F1 (by omega)) F2 (by omega)) Bx By (fun a3 H3 F3 => nm_r (nI_1 c) ?_)
        have H3' : sf_HX a3 c (fun t => (p x t + K * p y t) % 10007) := sf_HX_c H3 (fun t ht => by
          rw [if_pos (Nat.zero_le _), Nat.sub_zero])
        refine sf_yB_t hc hx (br_t rfl (sf_yB_t hc hy (br_t rfl (sf_yF_0 h (br_t rfl (sf_yCo (w := fun t => (p x t + K * p y t) % 10007) h (by omega) (by omega) HYx HYy (fun t ht v hv e => hw _ _ (Bx t ht) (By t ht) v hv e) (fun b1 H4 _ L => ⟨rfl, sf_new h P G (sf_KF (sf_FX_t (sf_FX_t F1 F2) F3)) H3' L H4 (fun _ _ => sf_mlt _) (fun t ht hne => ?_)⟩)))))))
        by_cases z : sf_sz t ≤ 6
        · exact z
        · refine absurd ?_ hne
          rw [sf_Sup_z Sx ht (by omega), sf_Sup_z Sy ht (by omega), Nat.mul_zero]
      · exact sf_xI_t hc hx (br_f sf_10 (sf_xI_t hc hy (br_f sf_10 (sf_xF_1 h (br_f sf_10 (sf_yB_t hc hx (br_t rfl (sf_yB_t hc hy (br_t rfl (sf_yF_1 h (br_f sf_10 ⟨rfl, J⟩)))))))))))
theorem i_vc_add {k : Nat} {u : SX} {v : SY} (I : i_Rel k u v) (hk : k + 5 ≤ 2560) (v1 : Int32) (v2 : Int32) : wpX_add (fun r u' => wpY_add (fun r' v' => r' = r ∧ i_Rel (k + 5) u' v') v v1 v2) u v1 v2 := by
  obtain ⟨c, p, a, pl, tr, b, hc, rfl, rfl, P, G⟩ := I
  unfold wpX_add wpY_add
  exact sf_ms (K := 1) (by decide) (fun f g hf hg v hv e => sf_wA hf hg v hv e) hc P G v1 v2
theorem i_vc_subtract {k : Nat} {u : SX} {v : SY} (I : i_Rel k u v) (hk : k + 5 ≤ 2560) (v1 : Int32) (v2 : Int32) : wpX_subtract (fun r u' => wpY_subtract (fun r' v' => r' = r ∧ i_Rel (k + 5) u' v') v v1 v2) u v1 v2 := by
  obtain ⟨c, p, a, pl, tr, b, hc, rfl, rfl, P, G⟩ := I
  unfold wpX_subtract wpY_subtract
  exact sf_ms (K := 10006) (by decide) (fun f g hf hg v hv e => sf_wS hf hg v hv e) hc P G v1 v2
theorem i_vc_multiply {k : Nat} {u : SX} {v : SY} (I : i_Rel k u v) (hk : k + 5 ≤ 2560) (v1 : Int32) (v2 : Int32) : wpX_multiply (fun r u' => wpY_multiply (fun r' v' => r' = r ∧ i_Rel (k + 5) u' v') v v1 v2) u v1 v2 := by
  have J := i_up I
  obtain ⟨c, p, a, pl, tr, b, hc, rfl, rfl, P, G⟩ := I
  unfold wpX_multiply wpY_multiply
  rcases sf_ixc v1 hc with hb | ⟨x, hx, rfl⟩
  · exact sf_xI_f hb (br_t rfl (sf_yB_f hb (br_f sf_10 ⟨rfl, J⟩)))
  · rcases sf_ixc v2 hc with hb | ⟨y, hy, rfl⟩
    · exact sf_xI_t hc hx (br_f sf_10 (sf_xI_f hb (br_t rfl (sf_yB_t hc hx (br_t rfl (sf_yB_f hb (br_f sf_10 ⟨rfl, J⟩)))))))
    · rcases sf_c16 hc with h | h
      · obtain ⟨HXx, HYx, Bx, Sx⟩ := G x hx
        obtain ⟨HXy, HYy, By, Sy⟩ := G y hy
        have h7x := sf_hx_7 Sx
        have h7y := sf_hx_7 Sy
        have hsx := sf_hx_sup (p x)
        have hsy := sf_hx_sup (p y)
        refine sf_xI_t hc hx (br_f sf_10 (sf_xI_t hc hy (br_f sf_10 (sf_xF_0 h (br_t rfl (sf_xH (by omega) HXx Bx (sf_xH (by omega) HXy By ?_)))))))
        have hyd : ∀ post : Int32 → Prop, post (sf_I (sf_hx (p x) sf_sz 343)) → wpY_degreeOf post (nI c, pl, tr, b) (nI x) := fun post hp => sf_yH P (by omega) HYx Bx Sx hp
        have hye : ∀ post : Int32 → Prop, post (sf_I (sf_hx (p y) sf_sz 343)) → wpY_degreeOf post (nI c, pl, tr, b) (nI y) := fun post hp => sf_yH P (by omega) HYy By Sy hp
        generalize sf_hx (p x) sf_sz 343 = dx at h7x hsx hyd
        generalize sf_hx (p y) sf_sz 343 = dy at h7y hsy hye
        have hdd := sf_dd dx (by omega) dy (by omega)
        by_cases z : dx + dy ≤ 8
        · refine br_t (hdd.mpr z) (sf_xP (by omega) (by omega) (by omega) (by omega) (by omega) HXx HXy Bx By (fun a1 H1 F1 => nm_r (nI_1 c) ?_))
          have Z : wY_multiply_62 (fun r' v' => r' = nI c ∧ i_Rel (k + 5) (nI (c + 1), a1) v') (nI x) (nI y) (nI c) pl tr b := by
            unfold wY_multiply_62
            refine sf_yT (tg := 16) P (by decide) (by omega) (by omega) (by omega) (by omega) HYx HYy Bx By hsx hsy (by omega) (fun b1 H2 F2 => sf_yK h H2 (fun b2 H3 F3 => ⟨rfl, sf_new h P G (sf_KF F1) H1 (fun s' h1 h2 t ht => ?_) H3 (sf_pm_B _ _) (sf_Sup_w (sf_pm_sup hsx hsy (by omega)) (by omega))⟩))
            rw [F3 s' h2 t ht, F2 s' (by omega) t ht]
          exact sf_yB_t hc hx (br_t rfl (sf_yB_t hc hy (br_t rfl (sf_yF_0 h (br_t rfl (hyd _ (hye _ (br_c (fun _ => Z) (fun _ => br_c (fun _ => Z) (fun _ => br_t (hdd.mpr z) Z))))))))))
        · refine br_f (fun q => z (hdd.mp q)) ?_
          exact sf_yB_t hc hx (br_t rfl (sf_yB_t hc hy (br_t rfl (sf_yF_0 h (br_t rfl (hyd _ (hye _ (br_f (fun q => by have := (sf_dn dx (by omega)).mp q; omega) (br_f (fun q => by have := (sf_dn dy (by omega)).mp q; omega) (br_f (fun q => z (hdd.mp q)) ⟨rfl, J⟩))))))))))
      · exact sf_xI_t hc hx (br_f sf_10 (sf_xI_t hc hy (br_f sf_10 (sf_xF_1 h (br_f sf_10 (sf_yB_t hc hx (br_t rfl (sf_yB_t hc hy (br_t rfl (sf_yF_1 h (br_f sf_10 ⟨rfl, J⟩)))))))))))
end
section
theorem sf_xPw {post : Int32 → SX → Prop} {a : Nat → Int32} {c x n : Nat} {g : Nat → Nat} (hc : c < 16) (hx : x < 16) (hxc : x ≠ c) (hn : n < 7) (Hg : sf_HX a x g) (Bg : sf_B g) (H : sf_HX a c sf_one)
    (h : ∀ a', sf_HX a' c (sf_pw g n) → sf_F2 c 16 a a' → post (nI c) (nI (c + 1), a')) : ∃ m, wX_power_60 post (nI x) (nI n) m 0 (nI c) a := by
  refine loop_0 (fun m i (b : Nat → Int32) => wX_power_60 post (nI x) (nI n) m (nI i) (nI c) b) (fun i b => sf_HX b c (sf_pw g i) ∧ sf_F2 c 16 a b) n a ⟨H, fun _ _ _ _ _ => rfl⟩ ?_ ?_
  · intro m b I
    exact br_t (nI_le (Nat.le_refl _) (by omega)) (nm_r (nI_1 c) (h b I.1 I.2))
  · intro m i b hi I hk
    exact br_f (nI_ge hi (by omega)) (sf_xQ (by omega) hx (by omega) hxc I.1 (sf_HX_2 Hg I.2 hxc (by omega)) (sf_pw_B g i) Bg (fun b1 H1 F1 => nm_r (nI_1 i) (hk b1 ⟨H1, fun s' h1 h2 t ht => (F1 s' h1 h2 t ht).trans (I.2 s' h1 h2 t ht)⟩)))
theorem i_vc_power {k : Nat} {u : SX} {v : SY} (I : i_Rel k u v) (hk : k + 5 ≤ 2560) (v1 : Int32) (v2 : Int32) : wpX_power (fun r u' => wpY_power (fun r' v' => r' = r ∧ i_Rel (k + 5) u' v') v v1 v2) u v1 v2 := by
  have J := i_up I
  obtain ⟨c, p, a, pl, tr, b, hc, rfl, rfl, P, G⟩ := I
  unfold wpX_power wpY_power
  rcases sf_ixc v1 hc with hb | ⟨x, hx, rfl⟩
  · exact sf_xI_f hb (br_t rfl (sf_yB_f hb (br_f sf_10 ⟨rfl, J⟩)))
  · rcases sf_c16 hc with h | h
    · refine sf_xI_t hc hx (br_f sf_10 (sf_xF_0 h (br_t rfl ?_)))
      rcases pk_ix v2 (n := 7) (by decide) with hn | hn | ⟨n, hn, rfl⟩
      · exact br_t hn (sf_yB_t hc hx (br_t rfl (sf_yF_0 h (br_t rfl (br_t hn ⟨rfl, J⟩)))))
      · have h0 : ¬ v2 < 0 := Int32.not_lt.mpr (Int32.le_trans (show (0 : Int32) ≤ nI 7 by decide) hn)
        have h6 : ¬ v2 ≤ 6 := Int32.not_le.mpr (Int32.lt_of_lt_of_le (show (6 : Int32) < nI 7 by decide) hn)
        exact br_f h0 (br_f h6 (sf_yB_t hc hx (br_t rfl (sf_yF_0 h (br_t rfl (br_f h0 (br_f h6 ⟨rfl, J⟩)))))))
      · have h0 : ¬ nI n < 0 := nI_pos (by omega)
        have h6 : nI n ≤ 6 := nI_le (a := n) (b := 6) (by omega) (by decide)
        obtain ⟨HXx, HYx, Bx, Sx⟩ := G x hx
        have h7x := sf_hx_7 Sx
        have hsx := sf_hx_sup (p x)
        refine br_f h0 (br_t h6 (sf_xH (by omega) HXx Bx ?_))
        have hyd : ∀ post : Int32 → Prop, post (sf_I (sf_hx (p x) sf_sz 343)) → wpY_degreeOf post (nI c, pl, tr, b) (nI x) := fun post hp => sf_yH P (by omega) HYx Bx Sx hp
        generalize sf_hx (p x) sf_sz 343 = dx at h7x hsx hyd
        have hdp := sf_dp dx (by omega) n hn
        by_cases z : n * (dx - 1) ≤ 6
        · refine br_t (hdp.mpr z) (sf_xT (c := 1) (t := 0) (by omega) (by decide) (fun a1 H1 F1 => sf_xPw h (by omega) (by omega) hn (sf_HX_f HXx F1 (by omega)) Bx H1 (fun a2 H2 F2 => ?_)))
          refine sf_yB_t hc hx (br_t rfl (sf_yF_0 h (br_t rfl (br_f h0 (br_t h6 (hyd _ (br_t (hdp.mpr z) (sf_y0 (s := 16) (by decide) (fun b1 H3 F3 => nm_e ?_)))))))))
          have H4 : sf_HY (upd b1 1344 1) 16 (fun m => if m = 0 then 1 else 0) := sf_HY_u (t := 0) (v := 1) H3 (by decide) (by decide)
          have F4 : sf_FY 16 b1 (upd b1 1344 1) := sf_FY_u (t := 0) (by decide)
          refine sf_yPw P h (by omega) hn (sf_HY_f (sf_HY_f HYx F3 (by omega)) F4 (by omega)) Bx hsx z H4 (fun b2 H5 L => ⟨rfl, sf_new h P G (fun s' h1 t ht => ?_) H2 (fun s' h1 h2 t ht => ?_) H5 (sf_pw_B _ _) (sf_Sup_w (sf_pw_sup hsx n z) z)⟩)
          · rw [F2 s' (by omega) (by omega) t ht, F1 s' (by omega) t ht]
          · rw [L s' h1 h2 t ht, F4 s' (by omega) t ht, F3 s' (by omega) t ht]
        · exact br_f (fun q => z (hdp.mp q)) (sf_yB_t hc hx (br_t rfl (sf_yF_0 h (br_t rfl (br_f h0 (br_t h6 (hyd _ (br_f (fun q => z (hdp.mp q)) ⟨rfl, J⟩))))))))
    · exact sf_xI_t hc hx (br_f sf_10 (sf_xF_1 h (br_f sf_10 (sf_yB_t hc hx (br_t rfl (sf_yF_1 h (br_f sf_10 ⟨rfl, J⟩)))))))
theorem i_vc_derive {k : Nat} {u : SX} {v : SY} (I : i_Rel k u v) (hk : k + 5 ≤ 2560) (v1 : Int32) (v2 : Int32) : wpX_derive (fun r u' => wpY_derive (fun r' v' => r' = r ∧ i_Rel (k + 5) u' v') v v1 v2) u v1 v2 := by
  have J := i_up I
  obtain ⟨c, p, a, pl, tr, b, hc, rfl, rfl, P, G⟩ := I
  unfold wpX_derive wpY_derive
  rcases sf_ixc v1 hc with hb | ⟨x, hx, rfl⟩
  · exact sf_xI_f hb (br_t rfl (sf_yB_f hb (br_f sf_10 ⟨rfl, J⟩)))
  · rcases sf_c16 hc with h | h
    · refine sf_xI_t hc hx (br_f sf_10 (sf_xF_0 h (br_t rfl ?_)))
      rcases sf_sy v2 with hb | ⟨s, hs, rfl⟩
      · exact sf_xY_f hb (br_t rfl (sf_yB_t hc hx (br_t rfl (sf_yF_0 h (br_t rfl (sf_yY_f hb (br_f sf_10 ⟨rfl, J⟩)))))))
      · obtain ⟨HXx, HYx, Bx, Sx⟩ := G x hx
        refine sf_xY_t hs (br_f sf_10 (sf_xV (by omega) (by omega) (by omega) hs HXx Bx (fun a1 H1 F1 => nm_r (nI_1 c) ?_)))
        refine sf_yB_t hc hx (br_t rfl (sf_yF_0 h (br_t rfl (sf_yY_t hs (br_t rfl (sf_y0 (s := 16) (by decide) (fun b1 H2 F2 => ?_)))))))
        refine sf_yDv P h (by omega) hs (sf_HY_f HYx F2 (by omega)) Bx Sx H2 (fun b2 H3 L => ⟨rfl, sf_new h P G (sf_KF F1) H1 (fun s' h1 h2 t ht => ?_) H3 (sf_dv_B _ _) (sf_dv_sup hs Sx)⟩)
        rw [L s' h1 h2 t ht, F2 s' (by omega) t ht]
    · exact sf_xI_t hc hx (br_f sf_10 (sf_xF_1 h (br_f sf_10 (sf_yB_t hc hx (br_t rfl (sf_yF_1 h (br_f sf_10 ⟨rfl, J⟩)))))))
theorem i_vc_substitute {k : Nat} {u : SX} {v : SY} (I : i_Rel k u v) (hk : k + 5 ≤ 2560) (v1 : Int32) (v2 : Int32) (v3 : Int32) : wpX_substitute (fun r u' => wpY_substitute (fun r' v' => r' = r ∧ i_Rel (k + 5) u' v') v v1 v2 v3) u v1 v2 v3 := by
  have J := i_up I
  obtain ⟨c, p, a, pl, tr, b, hc, rfl, rfl, P, G⟩ := I
  unfold wpX_substitute wpY_substitute
  rcases sf_ixc v1 hc with hb | ⟨x, hx, rfl⟩
  · exact sf_xI_f hb (br_t rfl (sf_yB_f hb (br_f sf_10 ⟨rfl, J⟩)))
  · rcases sf_ixc v3 hc with hb | ⟨y, hy, rfl⟩
    · exact sf_xI_t hc hx (br_f sf_10 (sf_xI_f hb (br_t rfl (sf_yB_t hc hx (br_t rfl (sf_yB_f hb (br_f sf_10 ⟨rfl, J⟩)))))))
    · rcases sf_c16 hc with h | h
      · refine sf_xI_t hc hx (br_f sf_10 (sf_xI_t hc hy (br_f sf_10 (sf_xF_0 h (br_t rfl ?_)))))
        rcases sf_sy v2 with hb | ⟨s, hs, rfl⟩
        · exact sf_xY_f hb (br_t rfl (sf_yB_t hc hx (br_t rfl (sf_yB_t hc hy (br_t rfl (sf_yF_0 h (br_t rfl (sf_yY_f hb (br_f sf_10 ⟨rfl, J⟩)))))))))
        · obtain ⟨HXx, HYx, Bx, Sx⟩ := G x hx
          obtain ⟨HXy, HYy, By, Sy⟩ := G y hy
          have h7y := sf_hx_7 Sy
          have hsy := sf_hx_sup (p y)
          have hyd : ∀ post : Int32 → Prop, post (sf_I (sf_hx (p y) sf_sz 343)) → wpY_degreeOf post (nI c, pl, tr, b) (nI y) := fun post hp => sf_yH P (by omega) HYy By Sy hp
          refine sf_xY_t hs (br_f sf_10 (sf_xS (by omega) (by omega) hs HXx HXy Bx By Sy (fun E => ?_) (fun E => ?_)))
          · refine br_t rfl (sf_xZ h (by omega) (by omega) (by omega) (by omega) hs HXx HXy Bx By (fun a1 H1 F1 => nm_r (nI_1 c) ?_))
            refine sf_yB_t hc hx (br_t rfl (sf_yB_t hc hy (br_t rfl (sf_yF_0 h (br_t rfl (sf_yY_t hs (br_t rfl (hyd _ (sf_y49 P (by omega) hs (by omega) HYx Bx Sx (fun _ => ?_) (fun n => absurd E n))))))))))
            refine sf_y0 (s := 18) (by decide) (fun b1 H2 F2 => sf_y141 P h (by omega) (by omega) hs (sf_HY_f HYx F2 (by omega)) (sf_HY_f HYy F2 (by omega)) Bx By Sx hsy (sf_okd Sx E) H2 (fun b2 H3 L => ⟨rfl, sf_new h P G (fun s' h1 t ht => F1 s' (by omega) (by omega) t ht) H1 (fun s' h1 h2 t ht => ?_) H3 (sf_sb_B _ _ _) (sf_sb_sup hs hsy (sf_okd Sx E))⟩))
            rw [L s' h1 h2 t ht, F2 s' (by omega) t ht]
          · exact br_f sf_10 (sf_yB_t hc hx (br_t rfl (sf_yB_t hc hy (br_t rfl (sf_yF_0 h (br_t rfl (sf_yY_t hs (br_t rfl (hyd _ (sf_y49 P (by omega) hs (by omega) HYx Bx Sx (fun n => absurd n E) (fun _ => ⟨rfl, J⟩)))))))))))
      · exact sf_xI_t hc hx (br_f sf_10 (sf_xI_t hc hy (br_f sf_10 (sf_xF_1 h (br_f sf_10 (sf_yB_t hc hx (br_t rfl (sf_yB_t hc hy (br_t rfl (sf_yF_1 h (br_f sf_10 ⟨rfl, J⟩)))))))))))
end
section
theorem i_vc_expressions {k : Nat} {u : SX} {v : SY} (I : i_Rel k u v) (hk : k + 5 ≤ 2560) : wpX_expressions (fun r => wpY_expressions (fun r' => r' = r ∧ i_Rel (k + 5) u v) v) u := by
  have J := i_up I
  obtain ⟨c, p, a, pl, tr, b, hc, rfl, rfl, P, G⟩ := I
  exact ⟨rfl, J⟩
theorem i_vc_same {k : Nat} {u : SX} {v : SY} (I : i_Rel k u v) (hk : k + 5 ≤ 2560) (v1 : Int32) (v2 : Int32) : wpX_same (fun r => wpY_same (fun r' => r' = r ∧ i_Rel (k + 5) u v) v v1 v2) u v1 v2 := by
  have J := i_up I
  obtain ⟨c, p, a, pl, tr, b, hc, rfl, rfl, P, G⟩ := I
  unfold wpX_same wpY_same
  rcases sf_ixc v1 hc with hb | ⟨x, hx, rfl⟩
  · exact sf_xI_f hb (br_t rfl (sf_yB_f hb (br_f sf_10 ⟨rfl, J⟩)))
  · rcases sf_ixc v2 hc with hb | ⟨y, hy, rfl⟩
    · exact sf_xI_t hc hx (br_f sf_10 (sf_xI_f hb (br_t rfl (sf_yB_t hc hx (br_t rfl (sf_yB_f hb (br_f sf_10 ⟨rfl, J⟩)))))))
    · obtain ⟨HXx, HYx, Bx, Sx⟩ := G x hx
      obtain ⟨HXy, HYy, By, Sy⟩ := G y hy
      refine sf_xI_t hc hx (br_f sf_10 (sf_xI_t hc hy (br_f sf_10 (sf_xR (by omega) (by omega) HXx HXy Bx By (fun e => br_f sf_10 ?_) (fun e => br_t rfl ?_)))))
      · exact sf_yB_t hc hx (br_t rfl (sf_yB_t hc hy (br_t rfl (sf_yR (by omega) (by omega) HYx HYy Bx By Sx Sy (fun _ => br_f sf_10 ⟨rfl, J⟩) (fun n => absurd e n)))))
      · exact sf_yB_t hc hx (br_t rfl (sf_yB_t hc hy (br_t rfl (sf_yR (by omega) (by omega) HYx HYy Bx By Sx Sy (fun n => absurd n e) (fun _ => br_t rfl ⟨rfl, J⟩)))))
theorem i_vc_degree {k : Nat} {u : SX} {v : SY} (I : i_Rel k u v) (hk : k + 5 ≤ 2560) (v1 : Int32) : wpX_degree (fun r => wpY_degree (fun r' => r' = r ∧ i_Rel (k + 5) u v) v v1) u v1 := by
  have J := i_up I
  obtain ⟨c, p, a, pl, tr, b, hc, rfl, rfl, P, G⟩ := I
  unfold wpX_degree wpY_degree
  rcases sf_ixc v1 hc with hb | ⟨x, hx, rfl⟩
  · exact sf_xI_f hb (br_t rfl (sf_yB_f hb (br_f sf_10 ⟨rfl, J⟩)))
  · obtain ⟨HXx, HYx, Bx, Sx⟩ := G x hx
    exact sf_xI_t hc hx (br_f sf_10 (sf_xH (by omega) HXx Bx (sf_yB_t hc hx (br_t rfl (sf_yH P (by omega) HYx Bx Sx ⟨rfl, J⟩)))))
theorem i_vc_degreeIn {k : Nat} {u : SX} {v : SY} (I : i_Rel k u v) (hk : k + 5 ≤ 2560) (v1 : Int32) (v2 : Int32) : wpX_degreeIn (fun r => wpY_degreeIn (fun r' => r' = r ∧ i_Rel (k + 5) u v) v v1 v2) u v1 v2 := by
  have J := i_up I
  obtain ⟨c, p, a, pl, tr, b, hc, rfl, rfl, P, G⟩ := I
  unfold wpX_degreeIn wpY_degreeIn
  rcases sf_ixc v1 hc with hb | ⟨x, hx, rfl⟩
  · exact sf_xI_f hb (br_t rfl (sf_yB_f hb (br_f sf_10 ⟨rfl, J⟩)))
  · obtain ⟨HXx, HYx, Bx, Sx⟩ := G x hx
    rcases sf_sy v2 with hb | ⟨s, hs, rfl⟩
    · exact sf_xI_t hc hx (br_f sf_10 (sf_xY_f hb (br_t rfl (sf_yB_t hc hx (br_t rfl (sf_yY_f hb (br_f sf_10 ⟨rfl, J⟩)))))))
    · exact sf_xI_t hc hx (br_f sf_10 (sf_xY_t hs (br_f sf_10 (sf_xG (by omega) hs HXx Bx (sf_yB_t hc hx (br_t rfl (sf_yY_t hs (br_t rfl (sf_yG P (by omega) hs HYx Bx Sx ⟨rfl, J⟩)))))))))
theorem i_vc_coefficient {k : Nat} {u : SX} {v : SY} (I : i_Rel k u v) (hk : k + 5 ≤ 2560) (v1 : Int32) (v2 : Int32) : wpX_coefficient (fun r => wpY_coefficient (fun r' => r' = r ∧ i_Rel (k + 5) u v) v v1 v2) u v1 v2 := by
  have J := i_up I
  obtain ⟨c, p, a, pl, tr, b, hc, rfl, rfl, P, G⟩ := I
  unfold wpX_coefficient wpY_coefficient
  rcases sf_ixc v1 hc with hb | ⟨x, hx, rfl⟩
  · exact sf_xI_f hb (br_t rfl (sf_yB_f hb (br_f sf_10 ⟨rfl, J⟩)))
  · obtain ⟨HXx, HYx, Bx, Sx⟩ := G x hx
    refine sf_xI_t hc hx (br_f sf_10 ?_)
    rcases pk_ix v2 (n := 343) (by decide) with hn | hn | ⟨t, ht, rfl⟩
    · exact br_t hn (sf_yB_t hc hx (br_t rfl (br_t hn ⟨rfl, J⟩)))
    · have h0 : ¬ v2 < 0 := Int32.not_lt.mpr (Int32.le_trans (show (0 : Int32) ≤ nI 343 by decide) hn)
      have h3 : ¬ v2 < 343 := Int32.not_lt.mpr hn
      have h2 : ¬ v2 ≤ 342 := Int32.not_le.mpr (Int32.lt_of_lt_of_le (show (342 : Int32) < nI 343 by decide) hn)
      exact br_f h0 (br_f h3 (sf_yB_t hc hx (br_t rfl (br_f h0 (br_f h2 ⟨rfl, J⟩)))))
    · have h0 : ¬ nI t < 0 := nI_pos (by omega)
      have h3 : nI t < 343 := nI_lt (a := t) (b := 343) ht (by decide)
      have h2 : nI t ≤ 342 := nI_le (a := t) (b := 342) (by omega) (by decide)
      have hin : vp_in (nI t) 343 := vp_in_nI ht (by decide)
      refine br_f h0 (br_t h3 ⟨sf_inX (by omega) ht, ?_⟩)
      rw [sf_rdX HXx (by omega) ht]
      refine sf_yB_t hc hx (br_t rfl (br_f h0 (br_t h2 ⟨hin, ?_⟩)))
      by_cases z : sf_sz t ≤ 6
      · have hr := sf_rk_ok t ht z
        have ep := sf_pl P ht z rfl
        have eb := sf_rdY HYx (by omega) hr.1
        rw [hr.2] at eb
        rw [ep]
        refine br_t (nI_pos' (by omega)) ⟨hin, sf_inY (by omega) hr.1, ?_⟩
        exact ⟨eb, J⟩
      · have ep : pl (nI t).toNatClampNeg = -1 := by
          rw [nI_clamp (by omega), P.1 t ht, if_neg z]
        rw [ep, sf_Sup_z Sx ht (by omega)]
        exact br_f (by decide) ⟨rfl, J⟩
theorem i_vc_terms {k : Nat} {u : SX} {v : SY} (I : i_Rel k u v) (hk : k + 5 ≤ 2560) (v1 : Int32) : wpX_terms (fun r => wpY_terms (fun r' => r' = r ∧ i_Rel (k + 5) u v) v v1) u v1 := by
  have J := i_up I
  obtain ⟨c, p, a, pl, tr, b, hc, rfl, rfl, P, G⟩ := I
  unfold wpX_terms wpY_terms
  rcases sf_ixc v1 hc with hb | ⟨x, hx, rfl⟩
  · exact sf_xI_f hb (br_t rfl (sf_yB_f hb (br_f sf_10 ⟨rfl, J⟩)))
  · obtain ⟨HXx, HYx, Bx, Sx⟩ := G x hx
    exact sf_xI_t hc hx (br_f sf_10 (sf_xN (by omega) HXx Bx (sf_yB_t hc hx (br_t rfl (sf_yN (by omega) HYx Bx Sx ⟨rfl, J⟩)))))
theorem i_vc_term {k : Nat} {u : SX} {v : SY} (I : i_Rel k u v) (hk : k + 5 ≤ 2560) (v1 : Int32) (v2 : Int32) : wpX_term (fun r => wpY_term (fun r' => r' = r ∧ i_Rel (k + 5) u v) v v1 v2) u v1 v2 := by
  have J := i_up I
  obtain ⟨c, p, a, pl, tr, b, hc, rfl, rfl, P, G⟩ := I
  unfold wpX_term wpY_term
  rcases sf_ixc v1 hc with hb | ⟨x, hx, rfl⟩
  · exact sf_xI_f hb (br_t rfl (sf_yB_f hb (br_f sf_10 ⟨rfl, J⟩)))
  · obtain ⟨HXx, HYx, Bx, Sx⟩ := G x hx
    obtain ⟨r, h1, h2⟩ := sf_term (fc := nI c) (fd := nI c) (q := v2) P (by omega) HXx HYx Bx Sx 343 (Nat.le_refl _) 0
    rw [sf_rk_343] at h2
    exact sf_xI_t hc hx (br_f sf_10 ⟨344, h1 _ (sf_yB_t hc hx (br_t rfl ⟨85, h2 _ ⟨rfl, J⟩⟩))⟩)
theorem i_vc_value {k : Nat} {u : SX} {v : SY} (I : i_Rel k u v) (hk : k + 5 ≤ 2560) (v1 : Int32) (v2 : Int32) (v3 : Int32) (v4 : Int32) : wpX_value (fun r => wpY_value (fun r' => r' = r ∧ i_Rel (k + 5) u v) v v1 v2 v3 v4) u v1 v2 v3 v4 := by
  have J := i_up I
  obtain ⟨c, p, a, pl, tr, b, hc, rfl, rfl, P, G⟩ := I
  unfold wpX_value wpY_value
  rcases sf_ixc v1 hc with hb | ⟨x, hx, rfl⟩
  · exact sf_xI_f hb (br_t rfl (sf_yB_f hb (br_f sf_10 ⟨rfl, J⟩)))
  · obtain ⟨HXx, HYx, Bx, Sx⟩ := G x hx
    obtain ⟨w2, hw2, _, hX2, hY2⟩ := sf_red v2
    obtain ⟨w3, hw3, _, hX3, hY3⟩ := sf_red v3
    obtain ⟨w4, hw4, _, hX4, hY4⟩ := sf_red v4
    refine sf_xI_t hc hx (br_f sf_10 (hX2 _ (hX3 _ (hX4 _ (sf_xL (by omega) hw2 hw3 hw4 HXx Bx ?_)))))
    exact sf_yB_t hc hx (br_t rfl (hY2 _ _ _ _ _ (hY3 _ _ _ _ _ (hY4 _ _ _ _ _ (sf_yL P (by omega) hw2 hw3 hw4 HYx Bx Sx ⟨rfl, J⟩)))))
theorem i_vc_kinds {k : Nat} {u : SX} {v : SY} (I : i_Rel k u v) (hk : k + 5 ≤ 2560) : wpX_kinds (fun r => wpY_kinds (fun r' => r' = r ∧ i_Rel (k + 5) u v) v) u := by
  have J := i_up I
  obtain ⟨c, p, a, pl, tr, b, hc, rfl, rfl, P, G⟩ := I
  unfold wpX_kinds wpY_kinds
  obtain ⟨r, h1, h2⟩ := sf_kd (pl := pl) (tr := tr) hc G c 0 (Nat.zero_add c) 0
  exact ⟨c + 1, h1 _ ⟨c + 1, h2 _ ⟨rfl, J⟩⟩⟩
end
