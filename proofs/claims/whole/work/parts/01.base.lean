theorem pk_us {f : Nat → Int32} {k : Nat} {x : Int32} : upd f k x k = x := if_pos rfl
theorem pk_un {f : Nat → Int32} {k j : Nat} {x : Int32} (h : j ≠ k) : upd f k x j = f j := if_neg h
theorem pk_sub {a b : Nat} (h : b ≤ a) : nI a - nI b = nI (a - b) := by
  obtain ⟨c, rfl⟩ : ∃ c, a = c + b := ⟨a - b, by omega⟩
  rw [← nI_add, Int32.add_sub_cancel, Nat.add_sub_cancel]
theorem pk_m1 (n : Nat) : nI (n + 1) + (-1) = nI n := by
  rw [← nI_1, Int32.add_assoc, show (1 : Int32) + (-1) = 0 from rfl, Int32.add_zero]
theorem pk_mul (a b : Nat) : nI a * nI b = nI (a * b) := (Int32.ofNat_mul a b).symm
theorem pk_div {a d : Nat} (ha : a < 2 ^ 31) (h0 : 0 < d) (hd : d < 2 ^ 31) : nI a / nI d = nI (a / d) := by
  apply Int32.toInt_inj.mp
  rw [lg_idiv_nonneg (by rw [nI_toInt ha]; omega) (by rw [nI_toInt hd]; omega), nI_toInt ha, nI_toInt hd, nI_toInt (Nat.lt_of_le_of_lt (Nat.div_le_self a d) ha)]
  first | rfl | exact (Int.natCast_ediv _ _).symm
theorem pk_rem {a d : Nat} (ha : a < 2 ^ 31) (h0 : 0 < d) (hd : d < 2 ^ 31) : nI a - nI a / nI d * nI d = nI (a % d) := by
  rw [pk_div ha h0 hd, pk_mul, pk_sub (Nat.div_mul_le_self a d)]
  exact congrArg nI (by have := Nat.div_add_mod' a d; omega)
theorem pk_ix (x : Int32) {n : Nat} (hn : n < 2 ^ 31) : x < 0 ∨ nI n ≤ x ∨ ∃ j : Nat, j < n ∧ x = nI j := by
  by_cases h : x < 0
  · exact Or.inl h
  · obtain ⟨j, hj, rfl⟩ := nI_of h
    by_cases h2 : j < n
    · exact Or.inr (Or.inr ⟨j, h2, rfl⟩)
    · exact Or.inr (Or.inl (nI_le (by omega) hj))
theorem pk_le {x y : Int32} {A B : Prop} (a b : Nat) (f : a ≤ b → A) (g : b < a → B) (hx : x = nI a := by rfl) (hy : y = nI b := by rfl) (ha : a < 2 ^ 31 := by omega) (hb : b < 2 ^ 31 := by omega) : (x ≤ y → A) ∧ (¬ x ≤ y → B) := by
  subst hx hy
  rw [nI_leI ha hb]
  exact ⟨f, fun z => g (by omega)⟩
theorem pk_lt {x y : Int32} {A B : Prop} (a b : Nat) (f : a < b → A) (g : b ≤ a → B) (hx : x = nI a := by rfl) (hy : y = nI b := by rfl) (ha : a < 2 ^ 31 := by omega) (hb : b < 2 ^ 31 := by omega) : (x < y → A) ∧ (¬ x < y → B) := by
  subst hx hy
  rw [nI_ltI ha hb]
  exact ⟨f, fun z => g (by omega)⟩
theorem pk_eq {x y : Int32} {A B : Prop} (a b : Nat) (f : a = b → A) (g : a ≠ b → B) (hx : x = nI a := by rfl) (hy : y = nI b := by rfl) (ha : a < 2 ^ 31 := by omega) (hb : b < 2 ^ 31 := by omega) : (x = y → A) ∧ (¬ x = y → B) := by
  subst hx hy
  rw [nI_eq ha hb]
  exact ⟨f, g⟩
theorem pk_in {x : Int32} (n N : Nat) (h : n < N) (hx : x = nI n := by rfl) (hN : N < 2 ^ 31 := by omega) : vp_in x N := by
  subst hx
  exact vp_in_nI h hN
theorem pk_cl {x : Int32} (n : Nat) (hx : x = nI n := by rfl) (h : n < 2 ^ 31 := by omega) : x.toNatClampNeg = n := by
  subst hx
  exact nI_clamp h
theorem pk_loop {σ : Type} (W : Nat → Nat → σ → Prop) (I : Nat → σ → Prop) (e i0 : Nat) (s : σ) (hi : i0 ≤ e) (h0 : I i0 s) (hx : ∀ n s, I e s → W (n + 1) e s)
    (hs : ∀ n i s, i < e → I i s → (∀ s', I (i + 1) s' → W n (i + 1) s') → W (n + 1) i s) : ∃ n, W n i0 s :=
  ⟨e + 1, loop_i W I e hx hs (e + 1) i0 s hi (by omega) h0⟩
theorem pk_loopD {σ : Type} (W : Nat → Nat → σ → Prop) (I : Nat → σ → Prop) (hx : ∀ n s, I 0 s → W (n + 1) 0 s)
    (hs : ∀ n i s, I (i + 1) s → (∀ s', I i s' → W n i s') → W (n + 1) (i + 1) s) : ∀ (e : Nat) (s : σ), I e s → W (e + 1) e s := by
  intro e
  induction e with
  | zero => exact fun s h => hx 0 s h
  | succ e ih => exact fun s h => hs (e + 1) e s h (fun s' h' => ih s' h')

/-! sums -/
def sf_sum : Nat → (Nat → Nat) → Nat
  | 0, _ => 0
  | n + 1, f => sf_sum n f + f n
theorem sf_sum_c {n : Nat} {f g : Nat → Nat} (h : ∀ i, i < n → f i = g i) : sf_sum n f = sf_sum n g := by
  induction n with
  | zero => rfl
  | succ n ih =>
    show sf_sum n f + f n = sf_sum n g + g n
    rw [ih (fun i hi => h i (by omega)), h n (by omega)]
theorem sf_sum_z {n : Nat} {f : Nat → Nat} (h : ∀ i, i < n → f i = 0) : sf_sum n f = 0 := by
  induction n with
  | zero => rfl
  | succ n ih =>
    show sf_sum n f + f n = 0
    rw [ih (fun i hi => h i (by omega)), h n (by omega)]
theorem sf_sum_one {n : Nat} {f : Nat → Nat} (k : Nat) (hk : k < n) (h : ∀ i, i < n → i ≠ k → f i = 0) : sf_sum n f = f k := by
  induction n with
  | zero => omega
  | succ n ih =>
    show sf_sum n f + f n = f k
    by_cases e : k = n
    · subst e
      rw [sf_sum_z (fun i hi => h i (by omega) (by omega))]
      omega
    · rw [ih (by omega) (fun i hi hn => h i (by omega) hn), h n (by omega) (fun z => e z.symm)]
      omega
theorem sf_sum_mul {n : Nat} (c : Nat) (f : Nat → Nat) : sf_sum n (fun i => c * f i) = c * sf_sum n f := by
  induction n with
  | zero => rfl
  | succ n ih =>
    show sf_sum n (fun i => c * f i) + c * f n = c * (sf_sum n f + f n)
    rw [ih, Nat.mul_add]
theorem sf_sum_add {n : Nat} (f g : Nat → Nat) : sf_sum n (fun i => f i + g i) = sf_sum n f + sf_sum n g := by
  induction n with
  | zero => rfl
  | succ n ih =>
    show sf_sum n (fun i => f i + g i) + (f n + g n) = sf_sum n f + f n + (sf_sum n g + g n)
    rw [ih]
    omega
theorem sf_sum_comm {n m : Nat} (f : Nat → Nat → Nat) : sf_sum n (fun i => sf_sum m (fun j => f i j)) = sf_sum m (fun j => sf_sum n (fun i => f i j)) := by
  induction n with
  | zero => exact (sf_sum_z (fun _ _ => rfl)).symm
  | succ n ih =>
    show sf_sum n (fun i => sf_sum m (fun j => f i j)) + sf_sum m (fun j => f n j) = sf_sum m (fun j => sf_sum n (fun i => f i j) + f n j)
    rw [ih, sf_sum_add]
theorem sf_am {a b c d : Nat} (h : a % 10007 = b % 10007) (h2 : c % 10007 = d % 10007) : (a + c) % 10007 = (b + d) % 10007 := by omega
theorem sf_sum_mod {n : Nat} {f g : Nat → Nat} (h : ∀ i, i < n → f i % 10007 = g i % 10007) : sf_sum n f % 10007 = sf_sum n g % 10007 := by
  induction n with
  | zero => rfl
  | succ n ih => exact sf_am (ih (fun i hi => h i (by omega))) (h n (by omega))
theorem sf_sum_ne {n : Nat} {f : Nat → Nat} (h : sf_sum n f ≠ 0) : ∃ i, i < n ∧ f i ≠ 0 := by
  by_cases e : ∃ i, i < n ∧ f i ≠ 0
  · exact e
  · exact absurd (sf_sum_z (fun i hi => by
      by_cases z : f i = 0
      · exact z
      · exact absurd ⟨i, hi, z⟩ e)) h
theorem sf_sum_shift (s n : Nat) (g : Nat → Nat) : sf_sum (s + n) (fun i => if s ≤ i then g (i - s) else 0) = sf_sum n g := by
  induction n with
  | zero => exact sf_sum_z (fun i hi => if_neg (by omega))
  | succ n ih =>
    show sf_sum (s + n) (fun i => if s ≤ i then g (i - s) else 0) + (if s ≤ s + n then g (s + n - s) else 0) = sf_sum n g + g n
    rw [ih, if_pos (by omega), Nat.add_sub_cancel_left]
theorem sf_sum_cut {n m : Nat} (g : Nat → Nat) (h : m < n) : sf_sum n (fun i => if i ≤ m then g i else 0) = sf_sum (m + 1) g := by
  induction n with
  | zero => omega
  | succ n ih =>
    show sf_sum n (fun i => if i ≤ m then g i else 0) + (if n ≤ m then g n else 0) = sf_sum (m + 1) g
    by_cases e : m = n
    · subst e
      rw [if_pos (Nat.le_refl _)]
      show _ = sf_sum m g + g m
      rw [sf_sum_c (g := g) (fun i hi => if_pos (by omega))]
    · rw [if_neg (by omega), ih (by omega)]
      rfl
/-! the triples -/
def sf_sz (t : Nat) : Nat := t / 49 + t / 7 % 7 + t % 7
def sf_ex (s t : Nat) : Nat := if s = 0 then t / 49 else if s = 1 then t / 7 % 7 else t % 7
def sf_un (s : Nat) : Nat := if s = 0 then 49 else if s = 1 then 7 else 1
def sf_rk : Nat → Nat
  | 0 => 0
  | t + 1 => if sf_sz t ≤ 6 then sf_rk t + 1 else sf_rk t
def sf_tl : List Nat := [0, 1, 2, 3, 4, 5, 6, 7, 8, 9, 10, 11, 12, 14, 15, 16, 17, 18, 21, 22, 23, 24, 28, 29, 30, 35, 36, 42, 49, 50, 51, 52, 53, 54, 56, 57, 58, 59, 60, 63, 64, 65, 66, 70, 71, 72, 77, 78, 84, 98, 99, 100, 101, 102, 105, 106, 107, 108, 112, 113, 114, 119, 120, 126, 147, 148, 149, 150, 154, 155, 156, 161, 162, 168, 196, 197, 198, 203, 204, 210, 245, 246, 252, 294]
def sf_tri (i : Nat) : Nat := sf_tl.getD i 0
theorem sf_rk_ok : ∀ t, t < 343 → sf_sz t ≤ 6 → sf_rk t < 84 ∧ sf_tri (sf_rk t) = t := by decide +kernel
theorem sf_tri_ok : ∀ i, i < 84 → sf_tri i < 343 ∧ sf_sz (sf_tri i) ≤ 6 ∧ sf_rk (sf_tri i) = i := by decide +kernel
theorem sf_rk_le : ∀ t, t < 344 → sf_rk t ≤ 84 := by decide +kernel
theorem sf_rk_343 : sf_rk 343 = 84 := by decide +kernel
theorem sf_ex_ok : ∀ s, s < 3 → ∀ t, t < 343 → sf_ex s t < 7 ∧ sf_ex s t ≤ sf_sz t ∧ sf_ex s t * sf_un s ≤ t := by decide +kernel
theorem sf_ex_sub : ∀ s, s < 3 → ∀ t, t < 343 → sf_sz (t - sf_ex s t * sf_un s) = sf_sz t - sf_ex s t := by decide +kernel
theorem sf_ex_dv : ∀ s, s < 3 → ∀ t, t < 343 → 0 < sf_ex s t → sf_un s ≤ t ∧ sf_sz (t - sf_un s) + 1 = sf_sz t := by decide +kernel
theorem sf_ex_dw : ∀ s, s < 3 → ∀ t, t < 343 → sf_sz t ≤ 5 → t + sf_un s < 343 ∧ sf_sz (t + sf_un s) = sf_sz t + 1 := by decide +kernel
theorem sf_un_ok : ∀ s, s < 3 → sf_un s < 50 ∧ 0 < sf_un s ∧ sf_sz (sf_un s) = 1 := by decide +kernel
theorem sf_sz_le : ∀ t, t < 343 → sf_sz t < 19 := by decide +kernel
theorem sf_dig {p q r : Nat} (hp : p < 7) (hq : q < 7) (hr : r < 7) : sf_sz (49 * p + 7 * q + r) = p + q + r := by
  unfold sf_sz
  omega
theorem sf_dg {t : Nat} (h : t < 343) : ∃ p q r, p < 7 ∧ q < 7 ∧ r < 7 ∧ t = 49 * p + 7 * q + r := ⟨t / 49, t / 7 % 7, t % 7, by omega, by omega, by omega, by omega⟩
theorem sf_carry {i j : Nat} (hi : i < 343) (hj : j < 343) (h : sf_sz i + sf_sz j ≤ 6) : i + j < 343 ∧ sf_sz (i + j) = sf_sz i + sf_sz j := by
  obtain ⟨p, q, r, hp, hq, hr, rfl⟩ := sf_dg hi
  obtain ⟨p', q', r', hp', hq', hr', rfl⟩ := sf_dg hj
  rw [sf_dig hp hq hr, sf_dig hp' hq' hr'] at h
  rw [sf_dig hp hq hr, sf_dig hp' hq' hr']
  have e : 49 * p + 7 * q + r + (49 * p' + 7 * q' + r') = 49 * (p + p') + 7 * (q + q') + (r + r') := by omega
  rw [e, sf_dig (by omega) (by omega) (by omega)]
  omega
theorem sf_sum_re (g : Nat → Nat) : ∀ n, n ≤ 343 → sf_sum n (fun t => if sf_sz t ≤ 6 then g t else 0) = sf_sum (sf_rk n) (fun b => g (sf_tri b)) := by
  intro n
  induction n with
  | zero => intro _; rfl
  | succ n ih =>
    intro hn
    show sf_sum n (fun t => if sf_sz t ≤ 6 then g t else 0) + (if sf_sz n ≤ 6 then g n else 0) = sf_sum (if sf_sz n ≤ 6 then sf_rk n + 1 else sf_rk n) (fun b => g (sf_tri b))
    by_cases h : sf_sz n ≤ 6
    · rw [if_pos h, if_pos h, ih (by omega)]
      show _ = sf_sum (sf_rk n) (fun b => g (sf_tri b)) + g (sf_tri (sf_rk n))
      rw [(sf_rk_ok n (by omega) h).2]
    · rw [if_neg h, if_neg h, ih (by omega)]
      rfl
theorem sf_sum_re2 (g : Nat → Nat) (hz : ∀ t, t < 343 → 6 < sf_sz t → g t = 0) : sf_sum 84 (fun b => g (sf_tri b)) = sf_sum 343 g := by
  have h := sf_sum_re g 343 (by omega)
  rw [sf_rk_343] at h
  rw [← h]
  exact sf_sum_c (fun t ht => by
    by_cases z : sf_sz t ≤ 6
    · exact if_pos z
    · rw [if_neg z, hz t ht (by omega)])
