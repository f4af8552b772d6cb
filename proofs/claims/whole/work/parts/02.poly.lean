def sf_Sup (d : Nat) (f : Nat → Nat) : Prop := ∀ t, t < 343 → f t ≠ 0 → sf_sz t ≤ d
def sf_B (f : Nat → Nat) : Prop := ∀ t, t < 343 → f t < 10007
def sf_pm (x y : Nat → Nat) (m : Nat) : Nat := sf_sum (m + 1) (fun i => x i * y (m - i)) % 10007
def sf_one (m : Nat) : Nat := if m = 0 then 1 else 0
def sf_pw (y : Nat → Nat) : Nat → Nat → Nat
  | 0 => sf_one
  | k + 1 => sf_pm (sf_pw y k) y
def sf_sc (c s : Nat) (g : Nat → Nat) (m : Nat) : Nat := if s ≤ m then c * g (m - s) % 10007 else 0
theorem sf_Sup_z {d : Nat} {f : Nat → Nat} (h : sf_Sup d f) {t : Nat} (ht : t < 343) (hd : d < sf_sz t) : f t = 0 := by
  by_cases z : f t = 0
  · exact z
  · have := h t ht z
    omega
theorem sf_Sup_w {d e : Nat} {f : Nat → Nat} (h : sf_Sup d f) (hd : d ≤ e) : sf_Sup e f := fun t ht z => Nat.le_trans (h t ht z) hd
theorem sf_mlt (a : Nat) : a % 10007 < 10007 := Nat.mod_lt _ (by decide)
theorem sf_pm_B (x y : Nat → Nat) : sf_B (sf_pm x y) := fun _ _ => sf_mlt _
theorem sf_one_B : sf_B sf_one := by
  intro t _
  unfold sf_one
  split <;> omega
theorem sf_pw_B (y : Nat → Nat) (k : Nat) : sf_B (sf_pw y k) := by
  cases k with
  | zero => exact sf_one_B
  | succ k => exact sf_pm_B _ _
theorem sf_sc_B (c s : Nat) (g : Nat → Nat) : sf_B (sf_sc c s g) := by
  intro t _
  unfold sf_sc
  split
  · exact sf_mlt _
  · omega
theorem sf_pm_x (x y : Nat → Nat) {m : Nat} (h : m < 343) : sf_sum 343 (fun i => if i ≤ m then x i * y (m - i) else 0) % 10007 = sf_pm x y m := by
  rw [sf_sum_cut (fun i => x i * y (m - i)) h]
  rfl
def sf_Q (x y : Nat → Nat) (i j m : Nat) : Nat := if sf_sz i + sf_sz j ≤ 6 ∧ i + j = m then x i * y j else 0
theorem sf_Q_row {x y : Nat → Nat} {dx dy : Nat} (hx : sf_Sup dx x) (hy : sf_Sup dy y) (hd : dx + dy ≤ 6) {i m : Nat} (hi : i < 343) (hm : m < 343) :
    sf_sum 84 (fun b => sf_Q x y i (sf_tri b) m) = if i ≤ m then x i * y (m - i) else 0 := by
  rw [sf_sum_re2 (fun j => sf_Q x y i j m) (fun t _ hz => if_neg (by omega))]
  by_cases h : i ≤ m
  · rw [if_pos h, sf_sum_one (n := 343) (f := fun j => sf_Q x y i j m) (m - i) (by omega) (fun j _ hn => if_neg (by omega))]
    unfold sf_Q
    by_cases z : x i * y (m - i) = 0
    · rw [z]
      split <;> rfl
    · have h1 : x i ≠ 0 := fun e => z (by rw [e, Nat.zero_mul])
      have h2 : y (m - i) ≠ 0 := fun e => z (by rw [e, Nat.mul_zero])
      have h3 := hx i hi h1
      have h4 := hy (m - i) (by omega) h2
      exact if_pos ⟨by omega, by omega⟩
  · rw [if_neg h]
    exact sf_sum_z (fun j _ => if_neg (by omega))
theorem sf_pm_y {x y : Nat → Nat} {dx dy : Nat} (hx : sf_Sup dx x) (hy : sf_Sup dy y) (hd : dx + dy ≤ 6) {m : Nat} (hm : m < 343) :
    sf_sum 84 (fun a => sf_sum 84 (fun b => sf_Q x y (sf_tri a) (sf_tri b) m)) % 10007 = sf_pm x y m := by
  rw [← sf_pm_x x y hm, sf_sum_c (fun a ha => sf_Q_row hx hy hd (sf_tri_ok a ha).1 hm), sf_sum_re2 (fun i => if i ≤ m then x i * y (m - i) else 0)]
  intro t ht hz
  rw [sf_Sup_z hx ht (by omega), Nat.zero_mul]
  split <;> rfl
theorem sf_pm_sup {x y : Nat → Nat} {dx dy : Nat} (hx : sf_Sup dx x) (hy : sf_Sup dy y) (hd : dx + dy ≤ 6) : sf_Sup (dx + dy) (sf_pm x y) := by
  intro m hm hne
  have h : sf_sum (m + 1) (fun i => x i * y (m - i)) ≠ 0 := fun e => hne (by unfold sf_pm; rw [e])
  obtain ⟨i, hi, z⟩ := sf_sum_ne h
  have h1 : x i ≠ 0 := fun e => z (by rw [e, Nat.zero_mul])
  have h2 : y (m - i) ≠ 0 := fun e => z (by rw [e, Nat.mul_zero])
  have h3 := hx i (by omega) h1
  have h4 := hy (m - i) (by omega) h2
  have h5 := (sf_carry (i := i) (j := m - i) (by omega) (by omega) (by omega)).2
  rw [show i + (m - i) = m by omega] at h5
  omega
theorem sf_one_sup : sf_Sup 0 sf_one := by
  intro t ht hne
  unfold sf_one at hne
  by_cases h : t = 0
  · subst h
    decide
  · rw [if_neg h] at hne
    omega
theorem sf_pw_sup {y : Nat → Nat} {d : Nat} (hy : sf_Sup d y) : ∀ k, k * d ≤ 6 → sf_Sup (k * d) (sf_pw y k) := by
  intro k
  induction k with
  | zero =>
    intro _
    rw [Nat.zero_mul]
    exact sf_one_sup
  | succ k ih =>
    intro h
    rw [Nat.succ_mul] at h ⊢
    exact sf_pm_sup (ih (by omega)) hy h
theorem sf_sc_sup {g : Nat → Nat} {c s d : Nat} (hg : sf_Sup d g) (hs : s < 343) (h : sf_sz s + d ≤ 6) : sf_Sup (sf_sz s + d) (sf_sc c s g) := by
  intro m hm hne
  unfold sf_sc at hne
  by_cases e : s ≤ m
  · rw [if_pos e] at hne
    have h2 : g (m - s) ≠ 0 := fun z => hne (by rw [z, Nat.mul_zero])
    have h4 := hg (m - s) (by omega) h2
    have h5 := (sf_carry (i := s) (j := m - s) hs (by omega) (by omega)).2
    rw [show s + (m - s) = m by omega] at h5
    omega
  · rw [if_neg e] at hne
    omega
theorem sf_sc_one {c s : Nat} (hc : c < 10007) (m : Nat) : sf_sc c s sf_one m = if m = s then c else 0 := by
  unfold sf_sc sf_one
  by_cases e : m = s
  · subst e
    rw [if_pos (Nat.le_refl _), if_pos rfl, if_pos (Nat.sub_self _), Nat.mul_one]
    exact Nat.mod_eq_of_lt hc
  · rw [if_neg e]
    by_cases h : s ≤ m
    · rw [if_pos h, if_neg (by omega), Nat.mul_zero]
    · rw [if_neg h]
theorem sf_mm (a b : Nat) : a % 10007 * b % 10007 = a * b % 10007 := by
  rw [Nat.mul_mod, Nat.mod_mod, ← Nat.mul_mod]
theorem sf_mm2 (a b : Nat) : a * (b % 10007) % 10007 = a * b % 10007 := by
  rw [Nat.mul_mod, Nat.mod_mod, ← Nat.mul_mod]
theorem sf_pm_sc (c s : Nat) (g y : Nat → Nat) (m : Nat) : sf_pm (sf_sc c s g) y m = sf_sc c s (sf_pm g y) m := by
  unfold sf_pm
  by_cases h : s ≤ m
  · rw [show m + 1 = s + (m - s + 1) by omega]
    rw [sf_sum_c (g := fun i => if s ≤ i then (fun j => c * g j % 10007 * y (m - s - j)) (i - s) else 0)]
    · rw [sf_sum_shift s (m - s + 1) (fun j => c * g j % 10007 * y (m - s - j)), sf_sum_mod (g := fun j => c * (g j * y (m - s - j)))]
      · rw [sf_sum_mul]
        unfold sf_sc
        rw [if_pos h, sf_mm2]
      · intro j _
        rw [sf_mm, Nat.mul_assoc]
    · intro i hi
      unfold sf_sc
      by_cases e : s ≤ i
      · rw [if_pos e, if_pos e]
        dsimp only
        rw [show m - s - (i - s) = m - i by omega]
      · rw [if_neg e, if_neg e, Nat.zero_mul]
  · rw [sf_sum_z]
    · unfold sf_sc
      rw [if_neg h]
    · intro i hi
      unfold sf_sc
      rw [if_neg (by omega), Nat.zero_mul]
/-! the highest weight plus one of a term that isn't 0 -/
def sf_hx (f w : Nat → Nat) : Nat → Nat
  | 0 => 0
  | n + 1 => if f n = 0 then sf_hx f w n else if w n + 1 ≤ sf_hx f w n then sf_hx f w n else w n + 1
theorem sf_hx_ge {f w : Nat → Nat} : ∀ n t, t < n → f t ≠ 0 → w t + 1 ≤ sf_hx f w n := by
  intro n
  induction n with
  | zero => intro t h; omega
  | succ n ih =>
    intro t ht hz
    show _ ≤ if f n = 0 then sf_hx f w n else if w n + 1 ≤ sf_hx f w n then sf_hx f w n else w n + 1
    by_cases e : t = n
    · subst e
      rw [if_neg hz]
      split <;> omega
    · have h1 := ih t (by omega) hz
      split
      · exact h1
      · split <;> omega
theorem sf_hx_le {f w : Nat → Nat} {b : Nat} : ∀ n, (∀ t, t < n → f t ≠ 0 → w t + 1 ≤ b) → sf_hx f w n ≤ b := by
  intro n
  induction n with
  | zero => intro _; exact Nat.zero_le _
  | succ n ih =>
    intro h
    show (if f n = 0 then sf_hx f w n else if w n + 1 ≤ sf_hx f w n then sf_hx f w n else w n + 1) ≤ b
    have h1 := ih (fun t ht => h t (by omega))
    split
    · exact h1
    · rename_i z
      have h2 := h n (by omega) z
      split <;> omega
theorem sf_hx_re (f w : Nat → Nat) (hz : sf_Sup 6 f) : ∀ n, n ≤ 343 → sf_hx (fun i => f (sf_tri i)) (fun i => w (sf_tri i)) (sf_rk n) = sf_hx f w n := by
  intro n
  induction n with
  | zero => intro _; rfl
  | succ n ih =>
    intro hn
    show sf_hx _ _ (if sf_sz n ≤ 6 then sf_rk n + 1 else sf_rk n) = if f n = 0 then sf_hx f w n else if w n + 1 ≤ sf_hx f w n then sf_hx f w n else w n + 1
    by_cases h : sf_sz n ≤ 6
    · rw [if_pos h]
      show (if f (sf_tri (sf_rk n)) = 0 then sf_hx (fun i => f (sf_tri i)) (fun i => w (sf_tri i)) (sf_rk n) else if w (sf_tri (sf_rk n)) + 1 ≤ sf_hx (fun i => f (sf_tri i)) (fun i => w (sf_tri i)) (sf_rk n) then sf_hx (fun i => f (sf_tri i)) (fun i => w (sf_tri i)) (sf_rk n) else w (sf_tri (sf_rk n)) + 1) = _
      rw [(sf_rk_ok n (by omega) h).2, ih (by omega)]
    · rw [if_neg h, if_pos (sf_Sup_z hz (by omega) (by omega)), ih (by omega)]
theorem sf_hx_re2 (f w : Nat → Nat) (hz : sf_Sup 6 f) : sf_hx (fun i => f (sf_tri i)) (fun i => w (sf_tri i)) 84 = sf_hx f w 343 := by
  have h := sf_hx_re f w hz 343 (by omega)
  rw [sf_rk_343] at h
  exact h
theorem sf_hx_sup (f : Nat → Nat) : sf_Sup (sf_hx f sf_sz 343 - 1) f := fun t ht z => by
  have := sf_hx_ge (w := sf_sz) 343 t ht z
  omega
theorem sf_hx_7 {f : Nat → Nat} (hz : sf_Sup 6 f) : sf_hx f sf_sz 343 ≤ 7 := sf_hx_le 343 (fun t ht z => by
  have := hz t ht z
  omega)
theorem sf_hxe_7 {f : Nat → Nat} {s : Nat} (hs : s < 3) : sf_hx f (sf_ex s) 343 ≤ 7 := sf_hx_le 343 (fun t ht z => by
  have := (sf_ex_ok s hs t ht).1
  omega)
/-! substitution -/
def sf_A (x y : Nat → Nat) (s e t m : Nat) : Nat := if sf_ex s t = e then (if t - e * sf_un s ≤ m then x t * sf_pw y e (m - (t - e * sf_un s)) else 0) else 0
def sf_T (x y : Nat → Nat) (s t m : Nat) : Nat := sf_sc (x t) (t - sf_ex s t * sf_un s) (sf_pw y (sf_ex s t)) m
def sf_sb (x y : Nat → Nat) (s m : Nat) : Nat := sf_sum 343 (fun t => sf_T x y s t m) % 10007
theorem sf_T_z {x y : Nat → Nat} {s t m : Nat} (h : x t = 0) : sf_T x y s t m = 0 := by
  unfold sf_T sf_sc
  rw [h, Nat.zero_mul]
  split <;> rfl
theorem sf_A_z {x y : Nat → Nat} {s e t m : Nat} (h : x t = 0) : sf_A x y s e t m = 0 := by
  unfold sf_A
  rw [h, Nat.zero_mul]
  split
  · split <;> rfl
  · rfl
theorem sf_sb_x {x y : Nat → Nat} {s h : Nat} (hh : ∀ t, t < 343 → x t ≠ 0 → sf_ex s t + 1 ≤ h) (m : Nat) :
    sf_sum h (fun e => sf_sum 343 (fun t => sf_A x y s e t m)) % 10007 = sf_sb x y s m := by
  rw [sf_sum_comm]
  apply sf_sum_mod
  intro t ht
  by_cases z : x t = 0
  · rw [sf_T_z z, sf_sum_z (fun e _ => sf_A_z z)]
  · have h1 := hh t ht z
    rw [sf_sum_one (n := h) (f := fun i => sf_A x y s i t m) (sf_ex s t) (by omega) (fun e _ hn => if_neg (fun q : sf_ex s t = e => hn q.symm))]
    unfold sf_A sf_T sf_sc
    rw [if_pos rfl]
    split
    · exact (Nat.mod_mod _ _).symm
    · rfl
theorem sf_sb_y {x y : Nat → Nat} {s : Nat} (hx : sf_Sup 6 x) (m : Nat) :
    sf_sum 84 (fun i => sf_T x y s (sf_tri i) m) % 10007 = sf_sb x y s m := by
  rw [sf_sum_re2 (fun t => sf_T x y s t m) (fun t ht hz => sf_T_z (sf_Sup_z hx ht hz))]
  rfl
theorem sf_sb_sup {x y : Nat → Nat} {s d : Nat} (hs : s < 3) (hy : sf_Sup d y) (hd : ∀ t, t < 343 → x t ≠ 0 → sf_sz t - sf_ex s t + sf_ex s t * d ≤ 6) : sf_Sup 6 (sf_sb x y s) := by
  intro m hm hne
  have h : sf_sum 343 (fun t => sf_T x y s t m) ≠ 0 := fun e => hne (by unfold sf_sb; rw [e])
  obtain ⟨t, ht, z⟩ := sf_sum_ne h
  have hx : x t ≠ 0 := fun e => z (sf_T_z e)
  have h1 := hd t ht hx
  have h2 := sf_ex_sub s hs t ht
  have h3 := sf_sc_sup (c := x t) (s := t - sf_ex s t * sf_un s) (sf_pw_sup hy (sf_ex s t) (by omega)) (by omega) (by omega) m hm z
  omega
theorem sf_sb_B (x y : Nat → Nat) (s : Nat) : sf_B (sf_sb x y s) := fun _ _ => sf_mlt _
