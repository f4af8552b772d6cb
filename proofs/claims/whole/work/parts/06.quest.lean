/-! the residue -/
theorem sf_tmod (a : Int) : (0 ≤ a.tmod 10007 → a % 10007 = a.tmod 10007) ∧ (¬ 0 ≤ a.tmod 10007 → a % 10007 = a.tmod 10007 + 10007) := by
  rcases Int.le_total 0 a with h0 | h0
  · rw [Int.tmod_eq_emod_of_nonneg h0]
    omega
  · have e : a.tmod 10007 = -((-a).tmod 10007) := by rw [Int.neg_tmod, Int.neg_neg]
    rw [e, Int.tmod_eq_emod_of_nonneg (by omega)]
    omega
theorem sf_red (x : Int32) : ∃ v : Nat, v < 10007 ∧ (v : Int) = x.toInt % 10007 ∧ (∀ post : Int32 → Prop, post (nI v) → wpX_residue post x)
    ∧ ∀ (post : Int32 → Prop) (fc : Int32) (pl tr b : Nat → Int32), post (nI v) → wpY_reduced post (fc, pl, tr, b) x := by
  have hr : (x - x / 10007 * 10007).toInt = x.toInt.tmod 10007 := rem_toInt x 10007
  have hb := tmod_bounds (a := x.toInt) (M := 10007) (by decide)
  have ht := sf_tmod x.toInt
  have h00 : (0 : Int32).toInt = 0 := by decide
  have h17 : (10007 : Int32).toInt = 10007 := by decide
  generalize hR : x - x / 10007 * 10007 = r at hr
  rw [← hr] at hb ht
  by_cases h0 : 0 ≤ r
  · have h1 : 0 ≤ r.toInt := by
      rw [Int32.le_iff_toInt_le, h00] at h0
      exact h0
    have e : r = nI r.toInt.toNat := by
      apply Int32.toInt_inj.mp
      rw [nI_toInt (by omega)]
      omega
    refine ⟨r.toInt.toNat, by omega, by have := ht.1 h1; omega, fun post hp => ⟨sf_7, ?_⟩, fun post fc pl tr b hp => ⟨sf_7, ?_⟩⟩
    · rw [hR]
      exact nm_e (br_t h0 (by rw [e]; exact hp))
    · rw [hR]
      exact nm_e (br_t h0 (by rw [e]; exact hp))
  · have h1 : ¬ 0 ≤ r.toInt := by
      rw [Int32.le_iff_toInt_le, h00] at h0
      exact h0
    have e : r + 10007 = nI (r.toInt + 10007).toNat := by
      apply Int32.toInt_inj.mp
      rw [nI_toInt (by omega), Int32.toInt_add, h17, Int.bmod_eq_of_le (by omega) (by omega)]
      omega
    refine ⟨(r.toInt + 10007).toNat, by omega, by have := ht.2 h1; omega, fun post hp => ⟨sf_7, ?_⟩, fun post fc pl tr b hp => ⟨sf_7, ?_⟩⟩
    · rw [hR]
      exact nm_e (br_f h0 (by rw [e]; exact hp))
    · rw [hR]
      exact nm_e (br_f h0 (by rw [e]; exact hp))
/-! arguments -/
theorem sf_ixc (x : Int32) {c : Nat} (hc : c ≤ 16) : (x < 0 ∨ nI c ≤ x) ∨ ∃ j, j < c ∧ x = nI j := by
  rcases pk_ix x (n := c) (by omega) with h | h | h
  · exact Or.inl (Or.inl h)
  · exact Or.inl (Or.inr h)
  · exact Or.inr h
theorem sf_sy (x : Int32) : (x < 0 ∨ 2 < x) ∨ ∃ s, s < 3 ∧ x = nI s := by
  rcases pk_ix x (n := 3) (by omega) with h | h | h
  · exact Or.inl (Or.inl h)
  · refine Or.inl (Or.inr ?_)
    exact Int32.lt_of_lt_of_le (show (2 : Int32) < nI 3 by decide) h
  · exact Or.inr h
theorem sf_10 : ¬ (1 : Int32) = 0 := by decide
theorem sf_xI_t {post : Int32 → Prop} {a : Nat → Int32} {c j : Nat} (hc : c ≤ 16) (hj : j < c) (h : post 1) : wpX_isExpression post (nI c, a) (nI j) :=
  br_f (nI_pos (by omega)) (br_f (nI_ge hj (by omega)) h)
theorem sf_xI_f {post : Int32 → Prop} {a : Nat → Int32} {c : Nat} {x : Int32} (hb : x < 0 ∨ nI c ≤ x) (h : post 0) : wpX_isExpression post (nI c, a) x := by
  by_cases h0 : x < 0
  · exact br_t h0 h
  · rcases hb with hb | hb
    · exact absurd hb h0
    · exact br_f h0 (br_t hb h)
theorem sf_yB_t {post : Int32 → Prop} {pl tr b : Nat → Int32} {c j : Nat} (hc : c ≤ 16) (hj : j < c) (h : post 0) : wpY_bad post (nI c, pl, tr, b) (nI j) :=
  br_f (nI_pos (by omega)) (br_f (nI_ge hj (by omega)) (br_t (nI_le (a := j) (b := 15) (by omega) (by decide)) h))
theorem sf_yB_f {post : Int32 → Prop} {pl tr b : Nat → Int32} {c : Nat} {x : Int32} (hb : x < 0 ∨ nI c ≤ x) (h : post 1) : wpY_bad post (nI c, pl, tr, b) x := by
  by_cases h0 : x < 0
  · exact br_t h0 h
  · rcases hb with hb | hb
    · exact absurd hb h0
    · exact br_f h0 (br_t hb h)
theorem sf_xF_0 {post : Int32 → Prop} {a : Nat → Int32} {c : Nat} (hc : c < 16) (h : post 0) : wpX_isFull post (nI c, a) := br_t (nI_lt (a := c) (b := 16) hc (by decide)) h
theorem sf_xF_1 {post : Int32 → Prop} {a : Nat → Int32} {c : Nat} (hc : c = 16) (h : post 1) : wpX_isFull post (nI c, a) := br_f (by subst hc; decide) h
theorem sf_yF_0 {post : Int32 → Prop} {pl tr b : Nat → Int32} {c : Nat} (hc : c < 16) (h : post 0) : wpY_full post (nI c, pl, tr, b) := br_t (nI_lt (a := c) (b := 16) hc (by decide)) h
theorem sf_yF_1 {post : Int32 → Prop} {pl tr b : Nat → Int32} {c : Nat} (hc : c = 16) (h : post 1) : wpY_full post (nI c, pl, tr, b) := br_f (by subst hc; decide) h
theorem sf_xY_t {post : Int32 → Prop} {s : Nat} (hs : s < 3) (h : post 1) : wpX_isSymbol post (nI s) := br_f (nI_pos (by omega)) (br_f (nI_nlt (a := 2) (b := s) (by omega) (by decide)) h)
theorem sf_xY_f {post : Int32 → Prop} {x : Int32} (hb : x < 0 ∨ 2 < x) (h : post 0) : wpX_isSymbol post x := by
  by_cases h0 : x < 0
  · exact br_t h0 h
  · rcases hb with hb | hb
    · exact absurd hb h0
    · exact br_f h0 (br_t hb h)
theorem sf_yY_t {post : Int32 → Prop} {fc : Int32} {pl tr b : Nat → Int32} {s : Nat} (hs : s < 3) (h : post 0) : wpY_badSymbol post (fc, pl, tr, b) (nI s) := br_f (nI_pos (by omega)) (br_t (nI_le (a := s) (b := 2) (by omega) (by decide)) h)
theorem sf_yY_f {post : Int32 → Prop} {fc : Int32} {pl tr b : Nat → Int32} {x : Int32} (hb : x < 0 ∨ 2 < x) (h : post 1) : wpY_badSymbol post (fc, pl, tr, b) x := by
  by_cases h0 : x < 0
  · exact br_t h0 h
  · rcases hb with hb | hb
    · exact absurd hb h0
    · exact br_f h0 (br_f (Int32.not_le.mpr hb) h)
/-! questions -/
theorem sf_yR {post : Int32 → Prop} {fc : Int32} {pl tr a : Nat → Int32} {x y : Nat} {f g : Nat → Nat} (hx : x < 24) (hy : y < 24) (Hf : sf_HY a x f) (Hg : sf_HY a y g) (Bf : sf_B f) (Bg : sf_B g) (Sf : sf_Sup 6 f) (Sg : sf_Sup 6 g)
    (hall : (∀ t, t < 343 → f t = g t) → post 1) (hnot : (¬ ∀ t, t < 343 → f t = g t) → post 0) : wpY_equal post (fc, pl, tr, a) (nI x) (nI y) := by
  refine loop_0 (fun n i (_ : Unit) => wY_equal_2 post (nI x) (nI y) fc pl tr a n (nI i)) (fun i _ => ∀ t, t < i → f (sf_tri t) = g (sf_tri t)) 84 () (fun t ht => absurd ht (Nat.not_lt_zero t)) ?_ ?_
  · intro n _ I
    refine br_t sf_le84 (hall (fun t ht => ?_))
    by_cases z : sf_sz t ≤ 6
    · have h1 := sf_rk_ok t ht z
      have h2 := I _ h1.1
      rw [h1.2] at h2
      exact h2
    · rw [sf_Sup_z Sf ht (by omega), sf_Sup_z Sg ht (by omega)]
  · intro n i _ hi I hk
    have ea := sf_rdY Hf hx hi
    have eb := sf_rdY Hg hy hi
    have hf := sf_tB Bf hi
    have hg := sf_tB Bg hi
    refine br_f (sf_nle84 hi) ⟨sf_inY hx hi, sf_inY hy hi, pk_eq (f (sf_tri i)) (g (sf_tri i)) (fun z => ?_) (fun z => ?_) ea eb (by omega) (by omega)⟩
    · exact nm_r (nI_1 i) (hk () (lt_s I z))
    · exact hnot (fun H => z (H _ (sf_tri_ok i hi).1))
theorem sf_yG {post : Int32 → Prop} {fc : Int32} {pl tr a : Nat → Int32} {s y : Nat} {f : Nat → Nat} (P : sf_PL pl tr) (hs : s < 24) (hy : y < 3) (H : sf_HY a s f) (B : sf_B f) (S : sf_Sup 6 f) (h : post (sf_I (sf_hx f (sf_ex y) 343))) : ∃ n, wY_degreeIn_27 post (nI s) (nI y) fc pl tr a n (-1) 0 := by
  rw [← sf_hx_re2 f (sf_ex y) S] at h
  refine loop_0 (fun n i (x : Int32) => wY_degreeIn_27 post (nI s) (nI y) fc pl tr a n x (nI i)) (fun i x => x = sf_I (sf_hx (fun i => f (sf_tri i)) (fun i => sf_ex y (sf_tri i)) i)) 84 (-1) sf_I_0.symm ?_ ?_
  · intro n x I
    subst I
    exact br_t sf_le84 h
  · intro n i x hi I hk
    subst I
    have ea := sf_rdY H hs hi
    have hf := sf_tB B hi
    have oi := sf_tri_ok i hi
    have he := (sf_ex_ok y hy _ oi.1).1
    refine br_f (sf_nle84 hi) ⟨sf_inY hs hi, ?_⟩
    by_cases z : f (sf_tri i) = 0
    · refine br_t (by rw [ea, z]; rfl) (nm_r (nI_1 i) (hk _ ?_))
      rw [sf_hx_0 (f := fun i => f (sf_tri i)) z]
    · refine br_f (by rw [ea]; exact nI_ne0 (by omega) (by omega)) ⟨sf_in84 hi, sf_yE hy oi.1 (sf_tr P hi) ?_⟩
      have hb : sf_hx (fun i => f (sf_tri i)) (fun i => sf_ex y (sf_tri i)) i ≤ 7 := sf_hx_le i (fun t ht _ => by
        have := (sf_ex_ok y hy _ (sf_tri_ok t (by omega)).1).1
        omega)
      have h2 := sf_I_le (sf_ex y (sf_tri i)) (by omega) (sf_hx (fun i => f (sf_tri i)) (fun i => sf_ex y (sf_tri i)) i) (by omega)
      by_cases z2 : sf_ex y (sf_tri i) + 1 ≤ sf_hx (fun i => f (sf_tri i)) (fun i => sf_ex y (sf_tri i)) i
      · refine br_t (h2.mpr z2) (nm_r (nI_1 i) (hk _ ?_))
        rw [sf_hx_1 (f := fun i => f (sf_tri i)) z z2]
      · refine br_f (fun q => z2 (h2.mp q)) ⟨sf_in84 hi, sf_yE hy oi.1 (sf_tr P hi) (nm_r (nI_1 i) (hk _ ?_))⟩
        rw [sf_hx_2 (f := fun i => f (sf_tri i)) (w := fun i => sf_ex y (sf_tri i)) z z2, sf_I_s]
def sf_nz (f : Nat → Nat) (t : Nat) : Nat := if f t = 0 then 0 else 1
theorem sf_xN {post : Int32 → Prop} {fc : Int32} {a : Nat → Int32} {s : Nat} {f : Nat → Nat} (hs : s < 18) (H : sf_HX a s f) (B : sf_B f) (h : post (nI (sf_sum 343 (sf_nz f)))) : ∃ n, wX_terms_14 post (nI s) fc a n 0 0 := by
  refine loop_0 (fun n i (x : Int32) => wX_terms_14 post (nI s) fc a n x (nI i)) (fun i x => x = nI (sf_sum i (sf_nz f))) 343 0 nI_0.symm ?_ ?_
  · intro n x I
    subst I
    exact br_t sf_le343 h
  · intro n i x hi I hk
    subst I
    have ea := sf_rdX H hs hi
    have hf := B i hi
    refine br_f (sf_nle343 hi) ⟨sf_inX hs hi, ?_⟩
    by_cases z : f i = 0
    · refine br_t (by rw [ea, z]; rfl) (nm_r (nI_1 i) (hk _ (congrArg nI ?_)))
      show _ = _ + sf_nz f i
      rw [show sf_nz f i = 0 from if_pos z]
      rfl
    · refine br_f (by rw [ea]; exact nI_ne0 (by omega) (by omega)) (nm_r (nI_1 _) (nm_r (nI_1 i) (hk _ (congrArg nI ?_))))
      show _ = _ + sf_nz f i
      rw [show sf_nz f i = 1 from if_neg z]
theorem sf_yN {post : Int32 → Prop} {fc : Int32} {pl tr a : Nat → Int32} {s : Nat} {f : Nat → Nat} (hs : s < 24) (H : sf_HY a s f) (B : sf_B f) (S : sf_Sup 6 f) (h : post (nI (sf_sum 343 (sf_nz f)))) : ∃ n, wY_terms_14 post (nI s) fc pl tr a n 0 0 := by
  rw [← sf_sum_re2 (sf_nz f) (fun t ht hz => if_pos (sf_Sup_z S ht hz))] at h
  refine loop_0 (fun n i (x : Int32) => wY_terms_14 post (nI s) fc pl tr a n x (nI i)) (fun i x => x = nI (sf_sum i (fun b => sf_nz f (sf_tri b)))) 84 0 nI_0.symm ?_ ?_
  · intro n x I
    subst I
    exact br_t sf_le84 h
  · intro n i x hi I hk
    subst I
    have ea := sf_rdY H hs hi
    have hf := sf_tB B hi
    refine br_f (sf_nle84 hi) ⟨sf_inY hs hi, ?_⟩
    by_cases z : f (sf_tri i) = 0
    · refine br_t (by rw [ea, z]; rfl) (nm_r (nI_1 i) (hk _ (congrArg nI ?_)))
      show _ = _ + sf_nz f (sf_tri i)
      rw [show sf_nz f (sf_tri i) = 0 from if_pos z]
      rfl
    · refine br_f (by rw [ea]; exact nI_ne0 (by omega) (by omega)) (nm_r (nI_1 _) (nm_r (nI_1 i) (hk _ (congrArg nI ?_))))
      show _ = _ + sf_nz f (sf_tri i)
      rw [show sf_nz f (sf_tri i) = 1 from if_neg z]
theorem sf_term {fc fd q : Int32} {a pl tr b : Nat → Int32} {s : Nat} {f : Nat → Nat} (P : sf_PL pl tr) (hs : s < 16) (HX : sf_HX a s f) (HY : sf_HY b s f) (B : sf_B f) (S : sf_Sup 6 f) :
    ∀ n, n ≤ 343 → ∀ p : Int32, ∃ r : Int32, (∀ post : Int32 → Prop, post r → wX_term_17 post (nI s) q fc a (n + 1) p (nI n + (-1))) ∧ ∀ post : Int32 → Prop, post r → wY_term_16 post (nI s) q fd pl tr b (sf_rk n + 1) p (nI (sf_rk n) + (-1)) := by
  intro n
  induction n with
  | zero =>
    intro _ p
    exact ⟨-2, fun _ hp => br_t (by decide) hp, fun _ hp => br_t (by decide) hp⟩
  | succ n ih =>
    intro hn p
    have hx0 : ¬ nI n < 0 := nI_pos (by omega)
    have hi : n < 343 := by omega
    have ea := sf_rdX HX (by omega) hi
    have hf := B n hi
    rw [pk_m1]
    by_cases z6 : sf_sz n ≤ 6
    · have hr := sf_rk_ok n hi z6
      rw [show sf_rk (n + 1) = sf_rk n + 1 from if_pos z6, pk_m1]
      have hy0 : ¬ nI (sf_rk n) < 0 := nI_pos (by omega)
      have eb := sf_rdY HY (by omega) hr.1
      rw [hr.2] at eb
      by_cases z : f n = 0
      · obtain ⟨r, h1, h2⟩ := ih (by omega) p
        exact ⟨r, fun post hp => br_f hx0 ⟨sf_inX (by omega) hi, br_t (by rw [ea, z]; rfl) (nm_e (h1 post hp))⟩, fun post hp => br_f hy0 ⟨sf_inY (by omega) hr.1, br_t (by rw [eb, z]; rfl) (nm_e (h2 post hp))⟩⟩
      · have hx1 : ¬ a (nI s * 343 + nI n).toNatClampNeg = 0 := by rw [ea]; exact nI_ne0 (by omega) (by omega)
        have hy1 : ¬ b (84 * nI s + nI (sf_rk n)).toNatClampNeg = 0 := by rw [eb]; exact nI_ne0 (by omega) (by omega)
        by_cases zp : p = q
        · refine ⟨nI n, fun post hp => br_f hx0 ⟨sf_inX (by omega) hi, br_f hx1 (br_t zp hp)⟩, fun post hp => br_f hy0 ⟨sf_inY (by omega) hr.1, br_f hy1 (br_t zp ⟨sf_in84 hr.1, ?_⟩)⟩⟩
          rw [sf_tr P hr.1, hr.2]
          exact hp
        · obtain ⟨r, h1, h2⟩ := ih (by omega) (p + 1)
          exact ⟨r, fun post hp => br_f hx0 ⟨sf_inX (by omega) hi, br_f hx1 (br_f zp (nm_e (nm_e (h1 post hp))))⟩, fun post hp => br_f hy0 ⟨sf_inY (by omega) hr.1, br_f hy1 (br_f zp (nm_e (nm_e (h2 post hp))))⟩⟩
    · rw [show sf_rk (n + 1) = sf_rk n from if_neg z6]
      have z : f n = 0 := sf_Sup_z S hi (by omega)
      obtain ⟨r, h1, h2⟩ := ih (by omega) p
      exact ⟨r, fun post hp => br_f hx0 ⟨sf_inX (by omega) hi, br_t (by rw [ea, z]; rfl) (nm_e (h1 post hp))⟩, h2⟩
/-! values -/
theorem sf_pwr (v b i : Nat) : v * b ^ i % 10007 * b % 10007 = v * b ^ (i + 1) % 10007 := by
  rw [sf_mm, Nat.pow_succ, Nat.mul_assoc]
theorem sf_xW {post : Int32 → Prop} {v b e : Nat} (hv : v < 10007) (hb : b < 10007) (he : e < 7) (h : post (nI (v * b ^ e % 10007))) : wpX_timesPower post (nI v) (nI b) (nI e) := by
  refine loop_0 (fun n i (x : Int32) => wX_timesPower_5 post (nI b) (nI e) n x (nI i)) (fun i x => x = nI (v * b ^ i % 10007)) e (nI v) (by rw [Nat.pow_zero, Nat.mul_one, Nat.mod_eq_of_lt hv]) ?_ ?_
  · intro n x I
    subst I
    exact br_t (nI_le (Nat.le_refl _) (by omega)) h
  · intro n i x hi I hk
    subst I
    refine br_f (nI_ge hi (by omega)) ⟨sf_7, nm_r (sf_mu (sf_mlt _) hb) (nm_r (nI_1 i) (hk _ ?_))⟩
    rw [sf_pwr]
theorem sf_yW {post : Int32 → Prop} {fc : Int32} {pl tr a : Nat → Int32} {b e : Nat} (hb : b < 10007) (he : e < 7) (h : post (nI (b ^ e % 10007))) : wpY_raised post (fc, pl, tr, a) (nI b) (nI e) := by
  refine loop_0 (fun n i (x : Int32) => wY_raised_5 post (nI b) (nI e) fc pl tr a n x (nI i)) (fun i x => x = nI (1 * b ^ i % 10007)) e 1 (by rw [Nat.pow_zero]; rfl) ?_ ?_
  · intro n x I
    subst I
    rw [Nat.one_mul]
    exact br_t (nI_le (Nat.le_refl _) (by omega)) h
  · intro n i x hi I hk
    subst I
    refine br_f (nI_ge hi (by omega)) ⟨sf_7, nm_r (sf_mu (sf_mlt _) hb) (nm_r (nI_1 i) (hk _ ?_))⟩
    rw [sf_pwr]
def sf_mo (u v w t : Nat) : Nat := u ^ sf_ex 0 t * v ^ sf_ex 1 t * w ^ sf_ex 2 t
def sf_vl (f : Nat → Nat) (u v w t : Nat) : Nat := f t * sf_mo u v w t
theorem sf_ad {a b : Nat} (ha : a < 10007) (hb : b < 10007) : (nI a + nI b) - (nI a + nI b) / 10007 * 10007 = nI ((a + b) % 10007) := by
  rw [nI_add, sf_mod (by omega)]
theorem sf_m3 (F U V W : Nat) : F * U % 10007 * V % 10007 * W % 10007 = F * (U * V * W) % 10007 := by
  rw [sf_mm, Nat.mul_assoc (F * U % 10007), sf_mm, Nat.mul_assoc F, Nat.mul_assoc U]
theorem sf_xL {post : Int32 → Prop} {fc : Int32} {a : Nat → Int32} {s u v w : Nat} {f : Nat → Nat} (hs : s < 18) (hu : u < 10007) (hv : v < 10007) (hw : w < 10007) (H : sf_HX a s f) (B : sf_B f) (h : post (nI (sf_sum 343 (sf_vl f u v w) % 10007))) :
    ∃ n, wX_value_35 post (nI s) (nI u) (nI v) (nI w) fc a n 0 0 := by
  refine loop_0 (fun n i (x : Int32) => wX_value_35 post (nI s) (nI u) (nI v) (nI w) fc a n x (nI i)) (fun i x => x = nI (sf_sum i (sf_vl f u v w) % 10007)) 343 0 nI_0.symm ?_ ?_
  · intro n x I
    subst I
    exact br_t sf_le343 h
  · intro n i x hi I hk
    subst I
    have hf := B i hi
    have h0 := (sf_ex_ok 0 (by decide) i hi).1
    have h1 := (sf_ex_ok 1 (by decide) i hi).1
    have h2 := (sf_ex_ok 2 (by decide) i hi).1
    refine br_f (sf_nle343 hi) ⟨sf_inX hs hi, nm_r (sf_rdX H hs hi) (pk_eq (f i) 0 (fun z => ?_) (fun z => ?_) rfl rfl (by omega) (by omega))⟩
    · refine nm_r (nI_1 i) (hk _ (congrArg nI ?_))
      show _ = (sf_sum i (sf_vl f u v w) + f i * sf_mo u v w i) % 10007
      rw [z, Nat.zero_mul, Nat.add_zero]
    · refine sf_xE (s := 0) (by decide) hi (sf_xE (s := 1) (by decide) hi (sf_xE (s := 2) (by decide) hi (sf_xW hf hu h0 (sf_xW (sf_mlt _) hv h1 (sf_xW (sf_mlt _) hw h2 ⟨sf_7, nm_r (sf_ad (sf_mlt _) (sf_mlt _)) (nm_r (nI_1 i) (hk _ (congrArg nI ?_)))⟩)))))
      show _ = (sf_sum i (sf_vl f u v w) + f i * (u ^ sf_ex 0 i * v ^ sf_ex 1 i * w ^ sf_ex 2 i)) % 10007
      rw [sf_m3, ← Nat.add_mod]
theorem sf_yL {post : Int32 → Prop} {fc : Int32} {pl tr a : Nat → Int32} {s u v w : Nat} {f : Nat → Nat} (P : sf_PL pl tr) (hs : s < 24) (hu : u < 10007) (hv : v < 10007) (hw : w < 10007) (H : sf_HY a s f) (B : sf_B f) (S : sf_Sup 6 f) (h : post (nI (sf_sum 343 (sf_vl f u v w) % 10007))) :
    ∃ n, wY_value_38 post (nI s) (nI u) (nI v) (nI w) fc pl tr a n 0 0 := by
  rw [← sf_sum_re2 (sf_vl f u v w) (fun t ht hz => by unfold sf_vl; rw [sf_Sup_z S ht hz, Nat.zero_mul])] at h
  refine loop_0 (fun n i (x : Int32) => wY_value_38 post (nI s) (nI u) (nI v) (nI w) fc pl tr a n x (nI i)) (fun i x => x = nI (sf_sum i (fun b => sf_vl f u v w (sf_tri b)) % 10007)) 84 0 nI_0.symm ?_ ?_
  · intro n x I
    subst I
    exact br_t sf_le84 h
  · intro n i x hi I hk
    subst I
    have oi := (sf_tri_ok i hi).1
    have hf := sf_tB B hi
    have h0 := (sf_ex_ok 0 (by decide) _ oi).1
    have h1 := (sf_ex_ok 1 (by decide) _ oi).1
    have h2 := (sf_ex_ok 2 (by decide) _ oi).1
    have e1 : nI (u ^ sf_ex 0 (sf_tri i) % 10007) * nI (v ^ sf_ex 1 (sf_tri i) % 10007) - nI (u ^ sf_ex 0 (sf_tri i) % 10007) * nI (v ^ sf_ex 1 (sf_tri i) % 10007) / 10007 * 10007 = nI (u ^ sf_ex 0 (sf_tri i) * v ^ sf_ex 1 (sf_tri i) % 10007) := by
      rw [sf_mu (sf_mlt _) (sf_mlt _), ← Nat.mul_mod]
    have e2 : nI (u ^ sf_ex 0 (sf_tri i) * v ^ sf_ex 1 (sf_tri i) % 10007) * nI (w ^ sf_ex 2 (sf_tri i) % 10007) - nI (u ^ sf_ex 0 (sf_tri i) * v ^ sf_ex 1 (sf_tri i) % 10007) * nI (w ^ sf_ex 2 (sf_tri i) % 10007) / 10007 * 10007 = nI (sf_mo u v w (sf_tri i) % 10007) := by
      rw [sf_mu (sf_mlt _) (sf_mlt _), ← Nat.mul_mod]
      rfl
    have e3 : nI (sf_sum i (fun b => sf_vl f u v w (sf_tri b)) % 10007) + a (84 * nI s + nI i).toNatClampNeg * nI (sf_mo u v w (sf_tri i) % 10007)
        - (nI (sf_sum i (fun b => sf_vl f u v w (sf_tri b)) % 10007) + a (84 * nI s + nI i).toNatClampNeg * nI (sf_mo u v w (sf_tri i) % 10007)) / 10007 * 10007 = nI (sf_sum (i + 1) (fun b => sf_vl f u v w (sf_tri b)) % 10007) := by
      rw [sf_rdY H hs hi, sf_mac (sf_mlt _) hf (sf_mlt _), Nat.add_mod, Nat.mod_mod, sf_mm2, ← Nat.add_mod]
      rfl
    refine br_f (sf_nle84 hi) ⟨sf_in84 hi, sf_yE (s := 0) (by decide) oi (sf_tr P hi) ⟨sf_in84 hi, sf_yE (s := 1) (by decide) oi (sf_tr P hi) ⟨sf_in84 hi, sf_yE (s := 2) (by decide) oi (sf_tr P hi) (sf_yW hu h0 (sf_yW hv h1 (sf_yW hw h2 ⟨sf_7, sf_7, ?_⟩)))⟩⟩⟩
    rw [e1, e2]
    exact nm_e ⟨sf_inY hs hi, sf_7, nm_r e3 (nm_r (nI_1 i) (hk _ rfl))⟩
