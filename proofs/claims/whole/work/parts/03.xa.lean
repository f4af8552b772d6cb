/-! X: the arrays as slots -/
def sf_HX (a : Nat → Int32) (s : Nat) (f : Nat → Nat) : Prop := ∀ t, t < 343 → a (s * 343 + t) = nI (f t)
def sf_FX (s : Nat) (a a' : Nat → Int32) : Prop := ∀ s', s' ≠ s → ∀ t, t < 343 → a' (s' * 343 + t) = a (s' * 343 + t)
def sf_F2 (s z : Nat) (a a' : Nat → Int32) : Prop := ∀ s', s' ≠ s → s' ≠ z → ∀ t, t < 343 → a' (s' * 343 + t) = a (s' * 343 + t)
def sf_KX (c : Nat) (a a' : Nat → Int32) : Prop := ∀ s', s' < c → ∀ t, t < 343 → a' (s' * 343 + t) = a (s' * 343 + t)
theorem sf_HX_f {a a' : Nat → Int32} {s s' : Nat} {f : Nat → Nat} (h : sf_HX a s' f) (F : sf_FX s a a') (hn : s' ≠ s) : sf_HX a' s' f := fun t ht => (F s' hn t ht).trans (h t ht)
theorem sf_HX_2 {a a' : Nat → Int32} {s z s' : Nat} {f : Nat → Nat} (h : sf_HX a s' f) (F : sf_F2 s z a a') (hn : s' ≠ s) (hz : s' ≠ z) : sf_HX a' s' f := fun t ht => (F s' hn hz t ht).trans (h t ht)
theorem sf_HX_k {a a' : Nat → Int32} {c s' : Nat} {f : Nat → Nat} (h : sf_HX a s' f) (F : sf_KX c a a') (hn : s' < c) : sf_HX a' s' f := fun t ht => (F s' hn t ht).trans (h t ht)
theorem sf_FX_r {s : Nat} {a : Nat → Int32} : sf_FX s a a := fun _ _ _ _ => rfl
theorem sf_FX_t {s : Nat} {a b c : Nat → Int32} (h : sf_FX s a b) (k : sf_FX s b c) : sf_FX s a c := fun s' hn t ht => (k s' hn t ht).trans (h s' hn t ht)
theorem sf_FX_u {s t : Nat} {a : Nat → Int32} {v : Int32} (ht : t < 343) : sf_FX s a (upd a (s * 343 + t) v) := fun s' hn t' ht' => pk_un (by omega)
theorem sf_HX_c {a : Nat → Int32} {s : Nat} {f g : Nat → Nat} (h : sf_HX a s f) (e : ∀ t, t < 343 → f t = g t) : sf_HX a s g := fun t ht => (h t ht).trans (congrArg nI (e t ht))
theorem sf_ix (s t : Nat) : nI s * 343 + nI t = nI (s * 343 + t) := by
  rw [show (343 : Int32) = nI 343 from rfl, pk_mul, nI_add]
theorem sf_inX {s t : Nat} (hs : s < 18) (ht : t < 343) : vp_in (nI s * 343 + nI t) 6174 := by
  rw [sf_ix]
  exact vp_in_nI (by omega) (by decide)
theorem sf_clX {s t : Nat} (hs : s < 18) (ht : t < 343) : (nI s * 343 + nI t).toNatClampNeg = s * 343 + t := by
  rw [sf_ix]
  exact nI_clamp (by omega)
theorem sf_rdX {a : Nat → Int32} {s t : Nat} {f : Nat → Nat} (H : sf_HX a s f) (hs : s < 18) (ht : t < 343) : a (nI s * 343 + nI t).toNatClampNeg = nI (f t) := by
  rw [sf_clX hs ht]
  exact H t ht
theorem sf_mod {a : Nat} (h : a < 2 ^ 31) : nI a - nI a / 10007 * 10007 = nI (a % 10007) := pk_rem h (by decide) (by decide)
theorem sf_ml {a b : Nat} (ha : a < 10007) (hb : b < 10007) : a * b ≤ 100120036 := Nat.mul_le_mul (show a ≤ 10006 by omega) (show b ≤ 10006 by omega)
theorem sf_mac {a k l : Nat} (ha : a < 10007) (hk : k < 10007) (hl : l < 10007) : (nI a + nI k * nI l) - (nI a + nI k * nI l) / 10007 * 10007 = nI ((a + k * l) % 10007) := by
  have := sf_ml hk hl
  rw [pk_mul, nI_add, sf_mod (by omega)]
theorem sf_mu {k l : Nat} (hk : k < 10007) (hl : l < 10007) : (nI k * nI l) - (nI k * nI l) / 10007 * 10007 = nI (k * l % 10007) := by
  have := sf_ml hk hl
  rw [pk_mul, sf_mod (by omega)]
theorem sf_upd_at {b : Nat → Int32} {q q' : Nat} {v v' : Int32} (h : q = q') (hv : v = v') : upd b q v = upd b q' v' := by rw [h, hv]
theorem sf_7 : ¬ (10007 : Int32) = 0 := by decide
theorem sf_le343 : (343 : Int32) ≤ nI 343 := nI_le (a := 343) (b := 343) (Nat.le_refl _) (by decide)
theorem sf_nle343 {i : Nat} (h : i < 343) : ¬ (343 : Int32) ≤ nI i := nI_ge (a := i) (b := 343) h (by decide)
theorem sf_x0 {post : SX → Prop} {fc : Int32} {a : Nat → Int32} {s : Nat} (hs : s < 18) (h : ∀ a', sf_HX a' s (fun _ => 0) → sf_FX s a a' → post (fc, a')) : wpX_setToZero post (fc, a) (nI s) := by
  refine loop_0 (fun n i (b : Nat → Int32) => wX_setToZero_2 post (nI s) fc n (nI i) b) (fun i b => (∀ t, t < i → b (s * 343 + t) = nI 0) ∧ sf_FX s a b) 343 a ⟨fun t ht => absurd ht (Nat.not_lt_zero t), sf_FX_r⟩ ?_ ?_
  · intro n b I
    exact br_t sf_le343 (h b I.1 I.2)
  · intro n i b hi I hk
    refine br_f (sf_nle343 hi) ⟨sf_inX hs hi, nm_r (sf_upd_at (sf_clX hs hi) rfl) (nm_r (nI_1 i) (hk _ ⟨fun t ht => ?_, sf_FX_t I.2 (sf_FX_u hi)⟩))⟩
    by_cases e : t = i
    · subst e
      exact pk_us
    · rw [pk_un (by omega)]
      exact I.1 t (by omega)
theorem sf_xT {post : SX → Prop} {fc : Int32} {a : Nat → Int32} {s c t : Nat} (hs : s < 18) (ht : t < 343) (h : ∀ a', sf_HX a' s (fun m => if m = t then c else 0) → sf_FX s a a' → post (fc, a')) : wpX_setToTerm post (fc, a) (nI s) (nI c) (nI t) := by
  unfold wpX_setToTerm
  refine sf_x0 hs (fun b H F => ?_)
  refine ⟨sf_inX hs ht, nm_r (sf_upd_at (sf_clX hs ht) rfl) (h _ (fun m hm => ?_) (sf_FX_t F (sf_FX_u ht)))⟩
  by_cases e : m = t
  · subst e
    rw [pk_us]
    exact (congrArg nI (if_pos rfl)).symm
  · rw [pk_un (by omega)]
    exact (H m hm).trans (congrArg nI (if_neg e).symm)
theorem sf_xM {post : SX → Prop} {fc : Int32} {a : Nat → Int32} {tg sr k sh : Nat} {S : Int32} {f g : Nat → Nat} (htg : tg < 18) (hsr : sr < 18) (hne : sr ≠ tg) (hk : k < 10007) (hsh : sh ≤ 343) (eS : S = nI sh)
    (Hf : sf_HX a tg f) (Hg : sf_HX a sr g) (Bf : sf_B f) (Bg : sf_B g)
    (h : ∀ a', sf_HX a' tg (fun m => (f m + (if sh ≤ m then k * g (m - sh) else 0)) % 10007) → sf_FX tg a a' → post (fc, a')) : wpX_addMultiple post (fc, a) (nI tg) (nI sr) (nI k) S := by
  subst eS
  have e343 : (343 : Int32) - nI sh = nI (343 - sh) := pk_sub (a := 343) hsh
  refine loop_0 (fun n i (b : Nat → Int32) => wX_addMultiple_3 post (nI tg) (nI sr) (nI k) (nI sh) fc n (nI i) b)
    (fun i b => sf_HX b tg (fun m => if sh ≤ m ∧ m < sh + i then (f m + k * g (m - sh)) % 10007 else f m) ∧ sf_FX tg a b) (343 - sh) a ⟨sf_HX_c Hf (fun t _ => (if_neg (by omega)).symm), sf_FX_r⟩ ?_ ?_
  · intro n b I
    refine br_t (by rw [e343]; exact nI_le (Nat.le_refl _) (by omega)) (h b (sf_HX_c I.1 (fun t ht => ?_)) I.2)
    by_cases e : sh ≤ t
    · rw [if_pos ⟨e, by omega⟩, if_pos e]
    · rw [if_neg (by omega), if_neg e, Nat.add_zero, Nat.mod_eq_of_lt (Bf t ht)]
  · intro n i b hi I hK
    refine br_f (by rw [e343]; exact nI_ge hi (by omega)) ⟨sf_inX hsr (by omega), nm_r (sf_rdX (sf_HX_f Hg I.2 hne) hsr (by omega)) ?_⟩
    have hg := Bg i (by omega)
    refine pk_eq (g i) 0 (fun z => ?_) (fun z => ?_) rfl rfl (by omega) (by omega)
    · refine nm_r (nI_1 i) (hK b ⟨sf_HX_c I.1 (fun t ht => ?_), I.2⟩)
      by_cases e : t = sh + i
      · subst e
        rw [if_neg (by omega), if_pos (by omega), Nat.add_sub_cancel_left, z, Nat.mul_zero, Nat.add_zero, Nat.mod_eq_of_lt (Bf _ ht)]
      · by_cases e2 : sh ≤ t ∧ t < sh + i
        · rw [if_pos e2, if_pos (by omega)]
        · rw [if_neg e2, if_neg (by omega)]
    · have e7 : nI tg * 343 + nI i + nI sh = nI (tg * 343 + (sh + i)) := by
        rw [sf_ix, nI_add]
        exact congrArg nI (by omega)
      have hin : vp_in (nI (tg * 343 + (sh + i))) 6174 := vp_in_nI (by omega) (by decide)
      have hcl : (nI (tg * 343 + (sh + i))).toNatClampNeg = tg * 343 + (sh + i) := nI_clamp (by omega)
      have hrd : b (nI (tg * 343 + (sh + i))).toNatClampNeg = nI (f (sh + i)) := by
        rw [hcl, I.1 (sh + i) (by omega)]
        exact congrArg nI (if_neg (by omega))
      have hv : (b (nI (tg * 343 + (sh + i))).toNatClampNeg + nI k * nI (g i)) - (b (nI (tg * 343 + (sh + i))).toNatClampNeg + nI k * nI (g i)) / 10007 * 10007 = nI ((f (sh + i) + k * g i) % 10007) := by
        rw [hrd]
        exact sf_mac (Bf _ (by omega)) hk hg
      refine nm_r e7 ⟨hin, sf_7, hin, nm_r (sf_upd_at hcl hv) (nm_r (nI_1 i) (hK _ ⟨fun t ht => ?_, sf_FX_t I.2 (sf_FX_u (by omega))⟩))⟩
      by_cases e : t = sh + i
      · subst e
        rw [pk_us]
        dsimp only
        rw [if_pos (by omega), Nat.add_sub_cancel_left]
      · rw [pk_un (by omega), I.1 t ht]
        dsimp only
        by_cases e2 : sh ≤ t ∧ t < sh + i
        · rw [if_pos e2, if_pos (by omega)]
        · rw [if_neg e2, if_neg (by omega)]
/-! exponents -/
theorem sf_d49 {t : Nat} (h : t < 343) : nI t / 49 = nI (t / 49) := pk_div (d := 49) (by omega) (by decide) (by decide)
theorem sf_d7 {t : Nat} (h : t < 343) : nI t / 7 = nI (t / 7) := pk_div (d := 7) (by omega) (by decide) (by decide)
theorem sf_m7 {t : Nat} (h : t < 343) : nI t - nI t / 7 * 7 = nI (t % 7) := pk_rem (d := 7) (by omega) (by decide) (by decide)
theorem sf_q7 {t : Nat} (h : t < 343) : nI t / 7 - nI t / 7 / 7 * 7 = nI (t / 7 % 7) := by
  rw [sf_d7 h]
  exact sf_m7 (by omega)
theorem sf_3 {s : Nat} (h : s < 3) : s = 0 ∨ s = 1 ∨ s = 2 := by omega
theorem sf_n10 : ¬ nI 1 = 0 := by decide
theorem sf_n20 : ¬ nI 2 = 0 := by decide
theorem sf_n21 : ¬ nI 2 = 1 := by decide
theorem sf_e11 : nI 1 = 1 := by decide
theorem sf_xE {post : Int32 → Prop} {s t : Nat} (hs : s < 3) (ht : t < 343) (h : post (nI (sf_ex s t))) : wpX_exponentOf post (nI s) (nI t) := by
  rcases sf_3 hs with rfl | rfl | rfl
  · refine br_t nI_0 ⟨by decide, ?_⟩
    rw [sf_d49 ht]
    exact h
  · refine br_f sf_n10 (br_t sf_e11 ⟨by decide, by decide, ?_⟩)
    rw [sf_q7 ht]
    exact h
  · refine br_f sf_n20 (br_f sf_n21 ⟨by decide, ?_⟩)
    rw [sf_m7 ht]
    exact h
theorem sf_xD {post : Int32 → Prop} {t : Nat} (ht : t < 343) (h : post (nI (sf_sz t))) : wpX_degreeOfTriple post (nI t) := by
  unfold wpX_degreeOfTriple
  refine sf_xE (s := 0) (by decide) ht ?_
  refine sf_xE (s := 1) (by decide) ht ?_
  refine sf_xE (s := 2) (by decide) ht ?_
  rw [nI_add, nI_add]
  exact h
theorem sf_xU {post : Int32 → Prop} {s : Nat} (hs : s < 3) (h : post (nI (sf_un s))) : wpX_tripleOfSymbol post (nI s) := by
  rcases sf_3 hs with rfl | rfl | rfl
  · exact br_t nI_0 h
  · exact br_f sf_n10 (br_t sf_e11 h)
  · exact br_f sf_n20 (br_f sf_n21 h)
/-! the highest degree and exponent -/
def sf_I (h : Nat) : Int32 := nI h + (-1)
theorem sf_I_le : ∀ d, d < 19 → ∀ h, h < 20 → (nI d ≤ sf_I h ↔ d + 1 ≤ h) := by decide +kernel
theorem sf_I_lt : ∀ h, h < 8 → ∀ e, e < 8 → (sf_I h < nI e ↔ h ≤ e) := by decide +kernel
theorem sf_I_s (d : Nat) : sf_I (d + 1) = nI d := pk_m1 d
theorem sf_I_0 : sf_I 0 = -1 := by decide
theorem sf_hx_19 {f : Nat → Nat} {n : Nat} (hn : n ≤ 343) : sf_hx f sf_sz n < 20 := by
  have : sf_hx f sf_sz n ≤ 19 := sf_hx_le n (fun t ht _ => by
    have := sf_sz_le t (by omega)
    omega)
  omega
theorem sf_hxe_19 {f : Nat → Nat} {n s : Nat} (hs : s < 3) (hn : n ≤ 343) : sf_hx f (sf_ex s) n < 20 := by
  have : sf_hx f (sf_ex s) n ≤ 19 := sf_hx_le n (fun t ht _ => by
    have := (sf_ex_ok s hs t (by omega)).1
    omega)
  omega
theorem sf_hx_0 {f w : Nat → Nat} {n : Nat} (h : f n = 0) : sf_hx f w (n + 1) = sf_hx f w n := if_pos h
theorem sf_hx_1 {f w : Nat → Nat} {n : Nat} (h : f n ≠ 0) (h2 : w n + 1 ≤ sf_hx f w n) : sf_hx f w (n + 1) = sf_hx f w n := (if_neg h).trans (if_pos h2)
theorem sf_hx_2 {f w : Nat → Nat} {n : Nat} (h : f n ≠ 0) (h2 : ¬ w n + 1 ≤ sf_hx f w n) : sf_hx f w (n + 1) = w n + 1 := (if_neg h).trans (if_neg h2)
theorem sf_xH {post : Int32 → Prop} {fc : Int32} {a : Nat → Int32} {s : Nat} {f : Nat → Nat} (hs : s < 18) (H : sf_HX a s f) (B : sf_B f) (h : post (sf_I (sf_hx f sf_sz 343))) : wpX_highestDegree post (fc, a) (nI s) := by
  refine loop_0 (fun n i (x : Int32) => wX_highestDegree_4 post (nI s) fc a n x (nI i)) (fun i x => x = sf_I (sf_hx f sf_sz i)) 343 (-1) sf_I_0.symm ?_ ?_
  · intro n x I
    subst I
    exact br_t sf_le343 h
  · intro n i x hi I hk
    subst I
    have ea := sf_rdX H hs hi
    have hf := B i hi
    refine br_f (sf_nle343 hi) ⟨sf_inX hs hi, ?_⟩
    by_cases z : f i = 0
    · refine br_t (by rw [ea, z]; rfl) (nm_r (nI_1 i) (hk _ ?_))
      rw [sf_hx_0 z]
    · refine br_f (by rw [ea]; exact nI_ne0 (by omega) (by omega)) (sf_xD hi ?_)
      have h2 := sf_I_le (sf_sz i) (sf_sz_le i hi) (sf_hx f sf_sz i) (sf_hx_19 (by omega))
      by_cases z2 : sf_sz i + 1 ≤ sf_hx f sf_sz i
      · refine br_t (h2.mpr z2) (nm_r (nI_1 i) (hk _ ?_))
        rw [sf_hx_1 z z2]
      · refine br_f (fun q => z2 (h2.mp q)) (nm_r (nI_1 i) (hk _ ?_))
        rw [sf_hx_2 z z2, sf_I_s]
theorem sf_xG {post : Int32 → Prop} {fc : Int32} {a : Nat → Int32} {s y : Nat} {f : Nat → Nat} (hs : s < 18) (hy : y < 3) (H : sf_HX a s f) (B : sf_B f) (h : post (sf_I (sf_hx f (sf_ex y) 343))) : wpX_highestExponent post (fc, a) (nI s) (nI y) := by
  refine loop_0 (fun n i (x : Int32) => wX_highestExponent_5 post (nI s) (nI y) fc a n x (nI i)) (fun i x => x = sf_I (sf_hx f (sf_ex y) i)) 343 (-1) sf_I_0.symm ?_ ?_
  · intro n x I
    subst I
    exact br_t sf_le343 h
  · intro n i x hi I hk
    subst I
    have ea := sf_rdX H hs hi
    have hf := B i hi
    have he := (sf_ex_ok y hy i hi).1
    refine br_f (sf_nle343 hi) ⟨sf_inX hs hi, ?_⟩
    by_cases z : f i = 0
    · refine br_t (by rw [ea, z]; rfl) (nm_r (nI_1 i) (hk _ ?_))
      rw [sf_hx_0 z]
    · refine br_f (by rw [ea]; exact nI_ne0 (by omega) (by omega)) (sf_xE hy hi ?_)
      have h2 := sf_I_le (sf_ex y i) (by omega) (sf_hx f (sf_ex y) i) (sf_hxe_19 hy (by omega))
      by_cases z2 : sf_ex y i + 1 ≤ sf_hx f (sf_ex y) i
      · refine br_t (h2.mpr z2) (nm_r (nI_1 i) (hk _ ?_))
        rw [sf_hx_1 z z2]
      · refine br_f (fun q => z2 (h2.mp q)) (nm_r (nI_1 i) (hk _ ?_))
        rw [sf_hx_2 z z2, sf_I_s]
