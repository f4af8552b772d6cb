theorem sf_amt (s t : Nat) : (s % 10007 + t) % 10007 = (s + t) % 10007 := by omega
theorem sf_xP {post : SX → Prop} {fc : Int32} {a : Nat → Int32} {tg x y : Nat} {f g : Nat → Nat} (htg : tg < 18) (hx : x < 18) (hy : y < 18) (hxt : x ≠ tg) (hyt : y ≠ tg)
    (Hf : sf_HX a x f) (Hg : sf_HX a y g) (Bf : sf_B f) (Bg : sf_B g)
    (h : ∀ a', sf_HX a' tg (sf_pm f g) → sf_FX tg a a' → post (fc, a')) : wpX_setToProduct post (fc, a) (nI tg) (nI x) (nI y) := by
  unfold wpX_setToProduct
  refine sf_x0 htg (fun b0 H0 F0 => ?_)
  refine loop_0 (fun n i (b : Nat → Int32) => wX_setToProduct_8 post (nI tg) (nI x) (nI y) n (nI i) fc b)
    (fun i b => sf_HX b tg (fun m => sf_sum i (fun j => if j ≤ m then f j * g (m - j) else 0) % 10007) ∧ sf_FX tg a b) 343 b0 ⟨H0, F0⟩ ?_ ?_
  · intro n b I
    exact br_t sf_le343 (h b (sf_HX_c I.1 (fun t ht => sf_pm_x f g ht)) I.2)
  · intro n i b hi I hk
    refine br_f (sf_nle343 hi) ⟨sf_inX hx hi, nm_r (sf_rdX (sf_HX_f Hf I.2 hxt) hx hi) ?_⟩
    have hf := Bf i hi
    refine pk_eq (f i) 0 (fun z => ?_) (fun z => ?_) rfl rfl (by omega) (by omega)
    · refine nm_r (nI_1 i) (hk b ⟨sf_HX_c I.1 (fun t ht => ?_), I.2⟩)
      show _ = (sf_sum i (fun j => if j ≤ t then f j * g (t - j) else 0) + (if i ≤ t then f i * g (t - i) else 0)) % 10007
      rw [z, Nat.zero_mul, ite_self, Nat.add_zero]
    · refine sf_xM htg hy hyt hf (by omega) rfl I.1 (sf_HX_f Hg I.2 hyt) (fun _ _ => sf_mlt _) Bg (fun b' H' F' => nm_r (nI_1 i) (hk b' ⟨sf_HX_c H' (fun t ht => ?_), sf_FX_t I.2 F'⟩))
      exact sf_amt _ _
theorem sf_xQ {post : SX → Prop} {fc : Int32} {a : Nat → Int32} {s y : Nat} {f g : Nat → Nat} (hs : s < 18) (hy : y < 16) (hs16 : s ≠ 16) (hys : y ≠ s)
    (Hf : sf_HX a s f) (Hg : sf_HX a y g) (Bf : sf_B f) (Bg : sf_B g)
    (h : ∀ a', sf_HX a' s (sf_pm f g) → sf_F2 s 16 a a' → post (fc, a')) : wpX_multiplySlotBy post (fc, a) (nI s) (nI y) := by
  unfold wpX_multiplySlotBy
  refine sf_xP (tg := 16) (by decide) hs (by omega) hs16 (by omega) Hf Hg Bf Bg (fun b Hb Fb => ?_)
  refine sf_x0 hs (fun c Hc Fc => ?_)
  refine sf_xM (k := 1) (sh := 0) (sr := 16) hs (by decide) (fun q => hs16 q.symm) (by decide) (by decide) rfl Hc (sf_HX_f Hb Fc (fun q => hs16 q.symm)) (fun _ _ => by decide) (sf_pm_B f g) (fun d Hd Fd => ?_)
  refine h d (sf_HX_c Hd (fun t ht => ?_)) (fun s' h1 h2 t ht => ?_)
  · rw [if_pos (Nat.zero_le _), Nat.one_mul, Nat.zero_add, Nat.sub_zero]
    exact Nat.mod_eq_of_lt (sf_pm_B f g t ht)
  · rw [Fd s' h1 t ht, Fc s' h1 t ht, Fb s' h2 t ht]
/-! derivative -/
def sf_dv (f : Nat → Nat) (s m : Nat) : Nat := if m + sf_un s < 343 ∧ 0 < sf_ex s (m + sf_un s) then f (m + sf_un s) * sf_ex s (m + sf_un s) % 10007 else 0
theorem sf_dv_B (f : Nat → Nat) (s : Nat) : sf_B (sf_dv f s) := by
  intro t _
  unfold sf_dv
  split
  · exact sf_mlt _
  · omega
theorem sf_dv_sup {f : Nat → Nat} {s : Nat} (hs : s < 3) (h : sf_Sup 6 f) : sf_Sup 6 (sf_dv f s) := by
  intro t ht hne
  unfold sf_dv at hne
  by_cases e : t + sf_un s < 343 ∧ 0 < sf_ex s (t + sf_un s)
  · rw [if_pos e] at hne
    have h1 : f (t + sf_un s) ≠ 0 := fun z => hne (by rw [z, Nat.zero_mul])
    have h2 := h _ e.1 h1
    have h3 := (sf_ex_dv s hs _ e.1 e.2).2
    rw [Nat.add_sub_cancel] at h3
    omega
  · rw [if_neg e] at hne
    omega
theorem sf_xV {post : SX → Prop} {fc : Int32} {a : Nat → Int32} {tg x s : Nat} {f : Nat → Nat} (htg : tg < 18) (hx : x < 18) (hxt : x ≠ tg) (hs : s < 3) (Hf : sf_HX a x f) (Bf : sf_B f)
    (h : ∀ a', sf_HX a' tg (sf_dv f s) → sf_FX tg a a' → post (fc, a')) : wpX_setToDerivative post (fc, a) (nI tg) (nI x) (nI s) := by
  unfold wpX_setToDerivative
  have hu := sf_un_ok s hs
  refine sf_xU hs ?_
  refine sf_x0 htg (fun b0 H0 F0 => ?_)
  refine pk_loop (fun n i (b : Nat → Int32) => wX_setToDerivative_15 post (nI tg) (nI x) (nI s) (nI (sf_un s)) fc n (nI i) b)
    (fun i b => sf_HX b tg (fun m => if m + sf_un s < i ∧ 0 < sf_ex s (m + sf_un s) then f (m + sf_un s) * sf_ex s (m + sf_un s) % 10007 else 0) ∧ sf_FX tg a b ∧ sf_un s ≤ i) 343 (sf_un s) b0 (by omega) ⟨sf_HX_c H0 (fun t _ => (if_neg (by omega)).symm), F0, Nat.le_refl _⟩ ?_ ?_
  · intro n b I
    exact br_t sf_le343 (h b I.1 I.2.1)
  · intro n i b hi I hk
    have he := sf_ex_ok s hs i hi
    have hsub : i - sf_un s + sf_un s = i := by omega
    refine br_f (sf_nle343 hi) (sf_xE hs hi ?_)
    refine pk_le (sf_ex s i) 0 (fun z => ?_) (fun z => ?_) rfl rfl (by omega) (by omega)
    · refine nm_r (nI_1 i) (hk b ⟨sf_HX_c I.1 (fun t ht => ?_), I.2.1, by omega⟩)
      by_cases e : t + sf_un s = i
      · rw [e, if_neg (by omega), if_neg (by omega)]
      · by_cases e2 : t + sf_un s < i ∧ 0 < sf_ex s (t + sf_un s)
        · rw [if_pos e2, if_pos ⟨by omega, e2.2⟩]
        · rw [if_neg e2, if_neg (by omega)]
    · have e7 : nI tg * 343 + nI i - nI (sf_un s) = nI (tg * 343 + (i - sf_un s)) := by
        rw [sf_ix, pk_sub (by omega)]
        exact congrArg nI (by omega)
      have hin : vp_in (nI tg * 343 + nI i - nI (sf_un s)) 6174 := by
        rw [e7]
        exact vp_in_nI (by omega) (by decide)
      have hcl : (nI tg * 343 + nI i - nI (sf_un s)).toNatClampNeg = tg * 343 + (i - sf_un s) := by
        rw [e7]
        exact nI_clamp (by omega)
      refine ⟨sf_inX hx hi, nm_r (sf_rdX (sf_HX_f Hf I.2.1 hxt) hx hi) ⟨sf_7, hin, nm_r (sf_upd_at hcl (sf_mu (Bf i hi) (by omega))) (nm_r (nI_1 i) (hk _ ⟨fun t ht => ?_, sf_FX_t I.2.1 (sf_FX_u (by omega)), by omega⟩))⟩⟩
      by_cases e : t = i - sf_un s
      · subst e
        rw [pk_us]
        dsimp only
        rw [hsub, if_pos (by omega)]
      · rw [pk_un (by omega), I.1 t ht]
        dsimp only
        by_cases e2 : t + sf_un s < i ∧ 0 < sf_ex s (t + sf_un s)
        · rw [if_pos e2, if_pos ⟨by omega, e2.2⟩]
        · rw [if_neg e2, if_neg (fun q => e2 ⟨by omega, q.2⟩)]
/-! substitution -/
def sf_ok (f : Nat → Nat) (s h t : Nat) : Prop := f t ≠ 0 → sf_sz t - sf_ex s t + sf_ex s t * h ≤ 6 + sf_ex s t
theorem sf_ok_i : ∀ z, z < 19 → ∀ e, e < 7 → e ≤ z → ∀ h, h < 8 → ((nI z - nI e) + nI e * sf_I h ≤ 6 ↔ z - e + e * h ≤ 6 + e) := by decide +kernel
theorem sf_xS {post : Int32 → Prop} {fc : Int32} {a : Nat → Int32} {x y s : Nat} {f g : Nat → Nat} (hx : x < 18) (hy : y < 18) (hs : s < 3) (Hf : sf_HX a x f) (Hg : sf_HX a y g) (Bf : sf_B f) (Bg : sf_B g) (hg : sf_Sup 6 g)
    (hall : (∀ t, t < 343 → sf_ok f s (sf_hx g sf_sz 343) t) → post 0) (hnot : (¬ ∀ t, t < 343 → sf_ok f s (sf_hx g sf_sz 343) t) → post 1) : wpX_substitutionIsTooHigh post (fc, a) (nI x) (nI s) (nI y) := by
  unfold wpX_substitutionIsTooHigh
  have h7 := sf_hx_7 hg
  refine sf_xH hy Hg Bg ?_
  refine loop_0 (fun n i (_ : Unit) => wX_substitutionIsTooHigh_10 post (nI x) (nI s) (sf_I (sf_hx g sf_sz 343)) fc a n (nI i)) (fun i _ => ∀ t, t < i → sf_ok f s (sf_hx g sf_sz 343) t) 343 () (fun t ht => absurd ht (Nat.not_lt_zero t)) ?_ ?_
  · intro n _ I
    exact br_t sf_le343 (hall I)
  · intro n i _ hi I hk
    have ea := sf_rdX Hf hx hi
    have hf := Bf i hi
    have he := sf_ex_ok s hs i hi
    refine br_f (sf_nle343 hi) ⟨sf_inX hx hi, ?_⟩
    by_cases z : f i = 0
    · exact br_t (by rw [ea, z]; rfl) (nm_r (nI_1 i) (hk () (lt_s I (fun q => absurd z q))))
    · refine br_f (by rw [ea]; exact nI_ne0 (by omega) (by omega)) (sf_xE hs hi (sf_xD hi (nm_e ?_)))
      have h2 := sf_ok_i (sf_sz i) (sf_sz_le i hi) (sf_ex s i) he.1 he.2.1 (sf_hx g sf_sz 343) (by omega)
      by_cases z2 : sf_sz i - sf_ex s i + sf_ex s i * sf_hx g sf_sz 343 ≤ 6 + sf_ex s i
      · exact br_t (h2.mpr z2) (nm_r (nI_1 i) (hk () (lt_s I (fun _ => z2))))
      · exact br_f (fun q => z2 (h2.mp q)) (hnot (fun H => z2 (H i hi z)))
theorem sf_eu : ∀ s, s < 3 → ∀ e, e < 7 → e * sf_un s < 343 := by decide +kernel
theorem sf_xA {post : SX → Prop} {fc : Int32} {a : Nat → Int32} {tg x s e : Nat} {f g q : Nat → Nat} (htg : tg < 17) (hx : x < 16) (hxt : x ≠ tg) (hs : s < 3) (he : e < 7)
    (Hf : sf_HX a x f) (Hg : sf_HX a 17 g) (Hq : sf_HX a tg q) (Bf : sf_B f) (Bg : sf_B g) (Bq : sf_B q)
    (h : ∀ a', sf_HX a' tg (fun m => (q m + sf_sum 343 (fun t => if sf_ex s t = e then (if t - e * sf_un s ≤ m then f t * g (m - (t - e * sf_un s)) else 0) else 0)) % 10007) → sf_FX tg a a' → post (fc, a')) :
    wpX_addTermsWithExponent post (fc, a) (nI tg) (nI x) (nI s) (nI e) := by
  unfold wpX_addTermsWithExponent
  have hu := sf_eu s hs e he
  refine sf_xU hs (nm_r (pk_mul e (sf_un s)) ?_)
  refine pk_loop (fun n i (b : Nat → Int32) => wX_addTermsWithExponent_13 post (nI tg) (nI x) (nI s) (nI e) (nI (e * sf_un s)) n (nI i) fc b)
    (fun i b => sf_HX b tg (fun m => (q m + sf_sum i (fun t => if sf_ex s t = e then (if t - e * sf_un s ≤ m then f t * g (m - (t - e * sf_un s)) else 0) else 0)) % 10007) ∧ sf_FX tg a b ∧ e * sf_un s ≤ i) 343 (e * sf_un s) a (by omega) ⟨sf_HX_c Hq (fun m hm => ?_), sf_FX_r, Nat.le_refl _⟩ ?_ ?_
  · rw [sf_sum_z, Nat.add_zero, Nat.mod_eq_of_lt (Bq m hm)]
    intro t ht
    refine if_neg (fun z => ?_)
    have h3 := (sf_ex_ok s hs t (by omega)).2.2
    rw [z] at h3
    omega
  · intro n b I
    exact br_t sf_le343 (h b I.1 I.2.1)
  · intro n i b hi I hk
    have hf := Bf i hi
    have hex := sf_ex_ok s hs i hi
    refine br_f (sf_nle343 hi) ⟨sf_inX (by omega) hi, nm_r (sf_rdX (sf_HX_f Hf I.2.1 hxt) (by omega) hi) ?_⟩
    refine pk_eq (f i) 0 (fun z => ?_) (fun z => ?_) rfl rfl (by omega) (by omega)
    · refine nm_r (nI_1 i) (hk b ⟨sf_HX_c I.1 (fun m hm => ?_), I.2.1, by omega⟩)
      show _ = (q m + (sf_sum i _ + (if sf_ex s i = e then (if i - e * sf_un s ≤ m then f i * g (m - (i - e * sf_un s)) else 0) else 0))) % 10007
      rw [z, Nat.zero_mul, ite_self, ite_self, Nat.add_zero]
    · refine sf_xE hs hi (pk_eq (sf_ex s i) e (fun z2 => ?_) (fun z2 => ?_) rfl rfl (by omega) (by omega))
      · refine sf_xM (sr := 17) (sh := i - e * sf_un s) (by omega) (by decide) (by omega) hf (by omega) (pk_sub I.2.2) I.1 (sf_HX_f Hg I.2.1 (by omega)) (fun _ _ => sf_mlt _) Bg (fun b' H' F' => nm_r (nI_1 i) (hk b' ⟨sf_HX_c H' (fun m hm => ?_), sf_FX_t I.2.1 F', by omega⟩))
        show _ = (q m + (sf_sum i _ + (if sf_ex s i = e then (if i - e * sf_un s ≤ m then f i * g (m - (i - e * sf_un s)) else 0) else 0))) % 10007
        rw [if_pos z2, ← Nat.add_assoc]
        exact sf_amt _ _
      · refine nm_r (nI_1 i) (hk b ⟨sf_HX_c I.1 (fun m hm => ?_), I.2.1, by omega⟩)
        show _ = (q m + (sf_sum i _ + (if sf_ex s i = e then (if i - e * sf_un s ≤ m then f i * g (m - (i - e * sf_un s)) else 0) else 0))) % 10007
        rw [if_neg z2, Nat.add_zero]
def sf_F3 (s : Nat) (a a' : Nat → Int32) : Prop := ∀ s', s' ≠ s → s' < 16 → ∀ t, t < 343 → a' (s' * 343 + t) = a (s' * 343 + t)
theorem sf_HX_3 {a a' : Nat → Int32} {s s' : Nat} {f : Nat → Nat} (h : sf_HX a s' f) (F : sf_F3 s a a') (hn : s' ≠ s) (hz : s' < 16) : sf_HX a' s' f := fun t ht => (F s' hn hz t ht).trans (h t ht)
theorem sf_xZ {post : SX → Prop} {fc : Int32} {a : Nat → Int32} {tg x y s : Nat} {f g : Nat → Nat} (htg : tg < 16) (hx : x < 16) (hy : y < 16) (hxt : x ≠ tg) (hyt : y ≠ tg) (hs : s < 3)
    (Hf : sf_HX a x f) (Hg : sf_HX a y g) (Bf : sf_B f) (Bg : sf_B g)
    (h : ∀ a', sf_HX a' tg (sf_sb f g s) → sf_F3 tg a a' → post (fc, a')) : wpX_setToSubstitution post (fc, a) (nI tg) (nI x) (nI s) (nI y) := by
  unfold wpX_setToSubstitution
  have h7 := sf_hxe_7 (f := f) hs
  have hge : ∀ t, t < 343 → f t ≠ 0 → sf_ex s t + 1 ≤ sf_hx f (sf_ex s) 343 := fun t ht z => sf_hx_ge (w := sf_ex s) 343 t ht z
  refine sf_xG (by omega) hs Hf Bf ?_
  generalize sf_hx f (sf_ex s) 343 = hh at h7 hge
  refine sf_x0 (by omega) (fun b0 H0 F0 => ?_)
  refine sf_xT (s := 17) (c := 1) (t := 0) (by decide) (by decide) (fun b1 H1 F1 => ?_)
  refine loop_0 (fun n e (b : Nat → Int32) => wX_setToSubstitution_24 post (nI tg) (nI x) (nI s) (nI y) (sf_I hh) n (nI e) fc b)
    (fun e b => sf_HX b tg (fun m => sf_sum e (fun e' => sf_sum 343 (fun t => sf_A f g s e' t m)) % 10007) ∧ sf_HX b 17 (sf_pw g (e - 1)) ∧ sf_F3 tg a b) hh b1 ⟨sf_HX_f H0 F1 (by omega), H1, fun s' h1 h2 t ht => ?_⟩ ?_ ?_
  · rw [F1 s' (by omega) t ht, F0 s' h1 t ht]
  · intro n b I
    refine br_t ((sf_I_lt hh (by omega) hh (by omega)).mpr (Nat.le_refl _)) (h b (sf_HX_c I.1 (fun m hm => sf_sb_x hge m)) I.2.2)
  · intro n e b hi I hk
    have tail : ∀ c, sf_HX c tg (fun m => sf_sum e (fun e' => sf_sum 343 (fun t => sf_A f g s e' t m)) % 10007) → sf_HX c 17 (sf_pw g e) → sf_F3 tg a c →
        wX_setToSubstitution_44 post (wX_setToSubstitution_24 post (nI tg) (nI x) (nI s) (nI y) (sf_I hh) n) (nI tg) (nI x) (nI s) (nI y) (sf_I hh) (nI e) fc c := by
      intro c Hc Hp Fc
      unfold wX_setToSubstitution_44
      refine sf_xA (by omega) hx hxt hs (by omega) (sf_HX_3 Hf Fc hxt hx) Hp Hc Bf (sf_pw_B g e) (fun _ _ => sf_mlt _) (fun d Hd Fd => nm_r (nI_1 e) (hk d ⟨sf_HX_c Hd (fun m hm => sf_amt _ _), sf_HX_f Hp Fd (by omega), fun s' h1 h2 t ht => ?_⟩))
      rw [Fd s' h1 t ht, Fc s' h1 h2 t ht]
    refine br_f (fun q => absurd ((sf_I_lt hh (by omega) e (by omega)).mp q) (by omega)) ?_
    refine pk_le e 0 (fun z => ?_) (fun z => ?_) rfl rfl (by omega) (by omega)
    · have z0 : e = 0 := by omega
      subst z0
      exact tail b I.1 I.2.1 I.2.2
    · refine sf_xQ (s := 17) (by decide) hy (by decide) (by omega) I.2.1 (sf_HX_3 Hg I.2.2 hyt hy) (sf_pw_B g _) Bg (fun d Hd Fd => tail d (sf_HX_2 I.1 Fd (by omega) (by omega)) ?_ (fun s' h1 h2 t ht => ?_))
      · obtain ⟨e', rfl⟩ : ∃ e', e = e' + 1 := ⟨e - 1, by omega⟩
        exact Hd
      · rw [Fd s' (by omega) (by omega) t ht, I.2.2 s' h1 h2 t ht]
theorem sf_xR {post : Int32 → Prop} {fc : Int32} {a : Nat → Int32} {x y : Nat} {f g : Nat → Nat} (hx : x < 18) (hy : y < 18) (Hf : sf_HX a x f) (Hg : sf_HX a y g) (Bf : sf_B f) (Bg : sf_B g)
    (hall : (∀ t, t < 343 → f t = g t) → post 1) (hnot : (¬ ∀ t, t < 343 → f t = g t) → post 0) : wpX_slotsAreEqual post (fc, a) (nI x) (nI y) := by
  refine loop_0 (fun n i (_ : Unit) => wX_slotsAreEqual_2 post (nI x) (nI y) fc a n (nI i)) (fun i _ => ∀ t, t < i → f t = g t) 343 () (fun t ht => absurd ht (Nat.not_lt_zero t)) ?_ ?_
  · intro n _ I
    exact br_t sf_le343 (hall I)
  · intro n i _ hi I hk
    have ea := sf_rdX Hf hx hi
    have eb := sf_rdX Hg hy hi
    have hf := Bf i hi
    have hg := Bg i hi
    refine br_f (sf_nle343 hi) ⟨sf_inX hx hi, sf_inX hy hi, pk_eq (f i) (g i) (fun z => ?_) (fun z => ?_) ea eb (by omega) (by omega)⟩
    · exact nm_r (nI_1 i) (hk () (lt_s I z))
    · exact hnot (fun H => z (H i hi))
