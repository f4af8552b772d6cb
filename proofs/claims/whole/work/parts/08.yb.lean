def sf_KY (a a' : Nat → Int32) : Prop := ∀ s, s < 16 → ∀ t, t < 84 → a' (84 * s + t) = a (84 * s + t)
theorem sf_KY_r {a : Nat → Int32} : sf_KY a a := fun _ _ _ _ => rfl
theorem sf_KY_t {a b c : Nat → Int32} {s : Nat} (h : sf_KY a b) (F : sf_FY s b c) (hs : 16 ≤ s) : sf_KY a c := fun s' h1 t ht => (F s' (by omega) t ht).trans (h s' h1 t ht)
theorem sf_HY_k {a a' : Nat → Int32} {s : Nat} {f : Nat → Nat} (h : sf_HY a s f) (F : sf_KY a a') (hs : s < 16) : sf_HY a' s f := fun t ht => (F s hs t ht).trans (h t ht)
theorem sf_i16 (i : Nat) : 1344 + nI i = nI (84 * 16 + i) := nI_add 1344 i
theorem sf_in16 {i : Nat} (h : i < 84) : vp_in (1344 + nI i) 2016 := by
  rw [sf_i16]
  exact vp_in_nI (by omega) (by decide)
theorem sf_cl16 {i : Nat} (h : i < 84) : (1344 + nI i).toNatClampNeg = 84 * 16 + i := by
  rw [sf_i16]
  exact nI_clamp (by omega)
theorem sf_i18 (i : Nat) : 1512 + nI i = nI (84 * 18 + i) := nI_add 1512 i
theorem sf_in18 {i : Nat} (h : i < 84) : vp_in (1512 + nI i) 2016 := by
  rw [sf_i18]
  exact vp_in_nI (by omega) (by decide)
theorem sf_cl18 {i : Nat} (h : i < 84) : (1512 + nI i).toNatClampNeg = 84 * 18 + i := by
  rw [sf_i18]
  exact nI_clamp (by omega)
/-- a row's cell at the place of the triple t -/
theorem sf_HY_u {a : Nat → Int32} {s t v : Nat} {f : Nat → Nat} (H : sf_HY a s f) (ht : t < 343) (hz : sf_sz t ≤ 6) : sf_HY (upd a (84 * s + sf_rk t) (nI v)) s (fun m => if m = t then v else f m) := by
  intro i hi
  have hr := sf_rk_ok t ht hz
  by_cases e : i = sf_rk t
  · subst e
    rw [pk_us, hr.2]
    exact (congrArg nI (if_pos rfl)).symm
  · rw [pk_un (by omega), H i hi]
    exact (congrArg nI (if_neg (fun q => e (sf_tri_inj hi q)))).symm
theorem sf_yCo {post : Int32 → SY → Prop} {pl tr a : Nat → Int32} {c x y : Nat} {X3 : Int32} {f g w : Nat → Nat} (hc : c < 16) (hx : x < 16) (hy : y < 16) (Hf : sf_HY a x f) (Hg : sf_HY a y g)
    (hw : ∀ t, t < 343 → ∀ v : Nat, v < 10007 → (v : Int) = (nI (f t) + X3 * nI (g t)).toInt % 10007 → v = w t)
    (h : ∀ a', sf_HY a' c w → sf_FY c a a' ∨ True → (∀ s, s < 16 → s ≠ c → ∀ t, t < 84 → a' (84 * s + t) = a (84 * s + t)) → post (nI c) (nI (c + 1), pl, tr, a')) :
    ∃ n, wY_combine_31 post (nI x) (nI y) X3 (nI c) n 0 pl tr a := by
  refine loop_0 (fun n i (b : Nat → Int32) => wY_combine_31 post (nI x) (nI y) X3 (nI c) n (nI i) pl tr b) (fun i b => (∀ t, t < i → b (84 * 16 + t) = nI (w (sf_tri t))) ∧ sf_FY 16 a b) 84 a ⟨fun t ht => absurd ht (Nat.not_lt_zero t), sf_FY_r⟩ ?_ ?_
  · intro n b I
    refine br_t sf_le84 (sf_yK hc I.1 (fun d Hd Fd => h d Hd (Or.inr trivial) (fun s h1 h2 t ht => ?_)))
    rw [Fd s h2 t ht, I.2 s (by omega) t ht]
  · intro n i b hi I hk
    refine br_f (sf_nle84 hi) ⟨sf_inY (by omega) hi, sf_inY (by omega) hi, ?_⟩
    rw [sf_rdY (sf_HY_f Hf I.2 (by omega)) (by omega) hi, sf_rdY (sf_HY_f Hg I.2 (by omega)) (by omega) hi]
    obtain ⟨v, hv, ev, _, hY⟩ := sf_red (nI (f (sf_tri i)) + X3 * nI (g (sf_tri i)))
    have e := hw _ (sf_tri_ok i hi).1 v hv ev
    refine hY _ _ _ _ _ ⟨sf_in16 hi, nm_r (sf_upd_at (sf_cl16 hi) (congrArg nI e)) (nm_r (nI_1 i) (hk _ ⟨fun t ht => ?_, sf_FY_t I.2 (sf_FY_u hi)⟩))⟩
    by_cases e : t = i
    · subst e
      exact pk_us
    · rw [pk_un (by omega)]
      exact I.1 t (by omega)
theorem sf_yPw {post : Int32 → SY → Prop} {pl tr a : Nat → Int32} {c x n d : Nat} {g : Nat → Nat} (P : sf_PL pl tr) (hc : c < 16) (hx : x < 16) (hn : n < 7) (Hg : sf_HY a x g) (Bg : sf_B g) (Sg : sf_Sup d g) (hd : n * d ≤ 6) (H16 : sf_HY a 16 sf_one)
    (h : ∀ a', sf_HY a' c (sf_pw g n) → (∀ s, s < 16 → s ≠ c → ∀ t, t < 84 → a' (84 * s + t) = a (84 * s + t)) → post (nI c) (nI (c + 1), pl, tr, a')) :
    ∃ m, wY_power_65 post (nI x) (nI n) m 0 (nI c) pl tr a := by
  refine loop_0 (fun m i (b : Nat → Int32) => wY_power_65 post (nI x) (nI n) m (nI i) (nI c) pl tr b) (fun i b => sf_HY b 16 (sf_pw g i) ∧ sf_KY a b) n a ⟨H16, sf_KY_r⟩ ?_ ?_
  · intro m b I
    refine br_t (nI_le (Nat.le_refl _) (by omega)) (sf_yK hc I.1 (fun e He Fe => h e He (fun s h1 h2 t ht => ?_)))
    rw [Fe s h2 t ht, I.2 s h1 t ht]
  · intro m i b hi I hk
    have h1 : (i + 1) * d ≤ n * d := Nat.mul_le_mul_right d hi
    rw [Nat.succ_mul] at h1
    refine br_f (nI_ge hi (by omega)) (sf_yT (tg := 17) (x := 16) P (by decide) (by decide) (by omega) (by decide) (by omega) I.1 (sf_HY_k Hg I.2 hx) (sf_pw_B g i) Bg (sf_pw_sup Sg i (by omega)) Sg (by omega) (fun b1 H1 F1 => ?_))
    exact sf_yC (s := 17) (z := 16) (by decide) (by decide) (by decide) H1 (fun b2 H2 F2 => nm_r (nI_1 i) (hk b2 ⟨H2, sf_KY_t (sf_KY_t I.2 F1 (by decide)) F2 (by decide)⟩))
theorem sf_ex_p : ∀ s, s < 3 → ∀ t, t < 343 → sf_sz t ≤ 5 → 0 < sf_ex s (t + sf_un s) := by decide +kernel
theorem sf_yDv {post : Int32 → SY → Prop} {pl tr a : Nat → Int32} {c x s : Nat} {f : Nat → Nat} (P : sf_PL pl tr) (hc : c < 16) (hx : x < 16) (hs : s < 3) (Hf : sf_HY a x f) (Bf : sf_B f) (Sf : sf_Sup 6 f) (H16 : sf_HY a 16 (fun _ => 0))
    (h : ∀ a', sf_HY a' c (sf_dv f s) → (∀ s, s < 16 → s ≠ c → ∀ t, t < 84 → a' (84 * s + t) = a (84 * s + t)) → post (nI c) (nI (c + 1), pl, tr, a')) :
    ∃ m, wY_derive_39 post (nI x) (nI s) (nI c) m 0 pl tr a := by
  have hu := sf_un_ok s hs
  refine loop_0 (fun m i (b : Nat → Int32) => wY_derive_39 post (nI x) (nI s) (nI c) m (nI i) pl tr b)
    (fun i b => sf_HY b 16 (fun m => if sf_sz m ≤ 5 ∧ sf_rk (m + sf_un s) < i then f (m + sf_un s) * sf_ex s (m + sf_un s) % 10007 else 0) ∧ sf_FY 16 a b) 84 a ⟨sf_HY_c H16 (fun t _ => (if_neg (by omega)).symm), sf_FY_r⟩ ?_ ?_
  · intro m b I
    refine br_t sf_le84 (sf_yK hc (sf_HY_c I.1 (g := sf_dv f s) (fun t ht => ?_)) (fun e He Fe => h e He (fun s h1 h2 t ht => ?_)))
    · unfold sf_dv
      by_cases z : sf_sz t ≤ 5
      · have h1 := sf_ex_dw s hs t ht z
        have h2 := sf_rk_ok _ h1.1 (by omega)
        rw [if_pos ⟨z, h2.1⟩, if_pos ⟨h1.1, sf_ex_p s hs t ht z⟩]
      · rw [if_neg (fun q => z q.1)]
        by_cases q : t + sf_un s < 343 ∧ 0 < sf_ex s (t + sf_un s)
        · rw [if_pos q]
          have h3 := (sf_ex_dv s hs _ q.1 q.2).2
          rw [Nat.add_sub_cancel] at h3
          rw [sf_Sup_z Sf q.1 (by omega), Nat.zero_mul]
        · rw [if_neg q]
    · rw [Fe s h2 t ht, I.2 s (by omega) t ht]
  · intro m i b hi I hk
    have oi := sf_tri_ok i hi
    have he := sf_ex_ok s hs _ oi.1
    refine br_f (sf_nle84 hi) ⟨sf_in84 hi, sf_yE hs oi.1 (sf_tr P hi) (pk_le (sf_ex s (sf_tri i)) 0 (fun z => ?_) (fun z => ?_) rfl rfl (by omega) (by omega))⟩
    · refine nm_r (nI_1 i) (hk b ⟨sf_HY_c I.1 (fun t ht => ?_), I.2⟩)
      by_cases q : sf_sz t ≤ 5 ∧ sf_rk (t + sf_un s) < i
      · rw [if_pos q, if_pos ⟨q.1, by omega⟩]
      · rw [if_neg q, if_neg]
        intro q2
        have h1 := sf_ex_dw s hs t ht q2.1
        have h2 := sf_rk_ok _ h1.1 (by omega)
        have h3 : sf_rk (t + sf_un s) = i := by omega
        rw [h3] at h2
        have h4 := sf_ex_p s hs t ht q2.1
        rw [← h2.2] at h4
        omega
    · have h1 := sf_ex_dv s hs _ oi.1 z
      have et : tr (nI i).toNatClampNeg - nI (sf_un s) = nI (sf_tri i - sf_un s) := by
        rw [sf_tr P hi, pk_sub h1.1]
      have hv : vp_in (tr (nI i).toNatClampNeg - nI (sf_un s)) 343 := by
        rw [et]
        exact vp_in_nI (by omega) (by decide)
      have hr := sf_rk_ok (sf_tri i - sf_un s) (by omega) (by omega)
      have ep := sf_pl P (t := sf_tri i - sf_un s) (by omega) (by omega) et
      have hin : vp_in (1344 + pl (tr (nI i).toNatClampNeg - nI (sf_un s)).toNatClampNeg) 2016 := by
        rw [ep]
        exact sf_in16 hr.1
      have hcl : (1344 + pl (tr (nI i).toNatClampNeg - nI (sf_un s)).toNatClampNeg).toNatClampNeg = 84 * 16 + sf_rk (sf_tri i - sf_un s) := by
        rw [ep]
        exact sf_cl16 hr.1
      have hval : b (84 * nI x + nI i).toNatClampNeg * nI (sf_ex s (sf_tri i)) - b (84 * nI x + nI i).toNatClampNeg * nI (sf_ex s (sf_tri i)) / 10007 * 10007 = nI (f (sf_tri i) * sf_ex s (sf_tri i) % 10007) := by
        rw [sf_rdY (sf_HY_f Hf I.2 (by omega)) (by omega) hi]
        exact sf_mu (sf_tB Bf hi) (by omega)
      refine ⟨sf_in84 hi, sf_yU hs ⟨hv, sf_inY (by omega) hi, sf_7, hin, nm_r (sf_upd_at hcl hval) (nm_r (nI_1 i) (hk _ ⟨?_, sf_FY_t I.2 (sf_FY_u hr.1)⟩))⟩⟩
      refine sf_HY_c (sf_HY_u I.1 (by omega) (by omega)) (fun t ht => ?_)
      by_cases e : t = sf_tri i - sf_un s
      · subst e
        have e2 : sf_tri i - sf_un s + sf_un s = sf_tri i := by omega
        rw [if_pos rfl, e2, oi.2.2, if_pos (by omega)]
      · rw [if_neg e]
        by_cases q : sf_sz t ≤ 5 ∧ sf_rk (t + sf_un s) < i
        · rw [if_pos q, if_pos ⟨q.1, by omega⟩]
        · rw [if_neg q, if_neg]
          intro q2
          have h3 := sf_ex_dw s hs t ht q2.1
          have h2 := sf_rk_ok _ h3.1 (by omega)
          have h4 : sf_rk (t + sf_un s) = i := by omega
          rw [h4] at h2
          omega
/-! substitution -/
theorem sf_y18 {post : SY → Prop} {fc : Int32} {pl tr a : Nat → Int32} {f g : Nat → Nat} (H16 : sf_HY a 16 f) (H18 : sf_HY a 18 g) (Bf : sf_B f) (Bg : sf_B g) (h : ∀ a', sf_HY a' 18 (fun m => (g m + f m) % 10007) → sf_FY 18 a a' → post (fc, pl, tr, a')) : wpY_addTo18 post (fc, pl, tr, a) := by
  refine loop_0 (fun n i (b : Nat → Int32) => wY_addTo18_2 post fc n (nI i) pl tr b) (fun i b => (∀ t, t < 84 → b (84 * 18 + t) = nI (if t < i then (g (sf_tri t) + f (sf_tri t)) % 10007 else g (sf_tri t))) ∧ sf_FY 18 a b) 84 a ⟨fun t ht => (H18 t ht).trans (congrArg nI (if_neg (by omega)).symm), sf_FY_r⟩ ?_ ?_
  · intro n b I
    exact br_t sf_le84 (h b (fun t ht => (I.1 t ht).trans (congrArg nI (if_pos ht))) I.2)
  · intro n i b hi I hk
    have e18 : b (1512 + nI i).toNatClampNeg = nI (g (sf_tri i)) := by
      rw [sf_cl18 hi, I.1 i hi, if_neg (by omega)]
    have e16 : b (1344 + nI i).toNatClampNeg = nI (f (sf_tri i)) := by
      rw [sf_cl16 hi]
      exact sf_HY_f H16 I.2 (by decide) i hi
    have hv : b (1512 + nI i).toNatClampNeg + b (1344 + nI i).toNatClampNeg - (b (1512 + nI i).toNatClampNeg + b (1344 + nI i).toNatClampNeg) / 10007 * 10007 = nI ((g (sf_tri i) + f (sf_tri i)) % 10007) := by
      rw [e18, e16]
      exact sf_ad (sf_tB Bg hi) (sf_tB Bf hi)
    refine br_f (sf_nle84 hi) ⟨sf_in18 hi, sf_in16 hi, sf_7, sf_in18 hi, nm_r (sf_upd_at (sf_cl18 hi) hv) (nm_r (nI_1 i) (hk _ ⟨fun t ht => ?_, sf_FY_t I.2 (sf_FY_u hi)⟩))⟩
    by_cases e : t = i
    · subst e
      rw [pk_us, if_pos (by omega)]
    · rw [pk_un (by omega), I.1 t ht]
      by_cases e2 : t < i
      · rw [if_pos e2, if_pos (by omega)]
      · rw [if_neg e2, if_neg (by omega)]
theorem sf_nI0m (x : Int32) : nI 0 * x = 0 := by
  rw [nI_0, Int32.zero_mul]
theorem sf_98 {post : Int32 → SY → Prop} {J : Int32 → Prop} {fc x4 z0 z1 : Int32} {pl tr a : Nat → Int32} {x y s h i : Nat} {f : Nat → Nat} (hx : x < 16) (hs : s < 3) (hh : h < 8) (Hf : sf_HY a x f) (Bf : sf_B f) (hi : i < 84)
    (hz : z1 + z0 = (nI (sf_sz (sf_tri i)) - nI (sf_ex s (sf_tri i))) + nI (sf_ex s (sf_tri i)) * sf_I h) (hok : sf_ok f s h (sf_tri i) → J (nI (i + 1))) (hno : ¬ sf_ok f s h (sf_tri i) → post (-3) (fc, pl, tr, a)) :
    wY_substitute_98 post J (nI x) (nI s) (nI y) x4 (nI i) z0 z1 fc pl tr a := by
  have oi := sf_tri_ok i hi
  have he := sf_ex_ok s hs _ oi.1
  have hf := sf_tB Bf hi
  have ea := sf_rdY Hf (by omega) hi
  refine nm_r hz ⟨sf_inY (by omega) hi, ?_⟩
  by_cases z : f (sf_tri i) = 0
  · exact br_t (by rw [ea, z]; rfl) (nm_r (nI_1 i) (hok (fun q => absurd z q)))
  · refine br_f (by rw [ea]; exact nI_ne0 (by omega) (by omega)) ?_
    have h2 := sf_ok_i (sf_sz (sf_tri i)) (sf_sz_le _ oi.1) (sf_ex s (sf_tri i)) he.1 he.2.1 h hh
    by_cases z2 : sf_sz (sf_tri i) - sf_ex s (sf_tri i) + sf_ex s (sf_tri i) * h ≤ 6 + sf_ex s (sf_tri i)
    · exact br_t (h2.mpr z2) (nm_r (nI_1 i) (hok (fun _ => z2)))
    · exact br_f (fun q => z2 (h2.mp q)) (hno (fun q => z2 (q z)))
theorem sf_y49 {post : Int32 → SY → Prop} {fc : Int32} {pl tr a : Nat → Int32} {x y s h : Nat} {f : Nat → Nat} (P : sf_PL pl tr) (hx : x < 16) (hs : s < 3) (hh : h < 8) (Hf : sf_HY a x f) (Bf : sf_B f) (Sf : sf_Sup 6 f)
    (hall : (∀ t, t < 343 → sf_ok f s h t) → wpY_zero (fun u => match u with | (f_count_32, a_place_33, a_triple_34, a_table_35) => (∃ n141 : Nat, wY_substitute_141 post (nI x) (nI s) (nI y) n141 0 f_count_32 a_place_33 a_triple_34 a_table_35)) (fc, pl, tr, a) 18)
    (hnot : (¬ ∀ t, t < 343 → sf_ok f s h t) → post (-3) (fc, pl, tr, a)) : ∃ n, wY_substitute_49 post (nI x) (nI s) (nI y) (sf_I h) fc pl tr a n 0 := by
  refine loop_0 (fun n i (_ : Unit) => wY_substitute_49 post (nI x) (nI s) (nI y) (sf_I h) fc pl tr a n (nI i)) (fun i _ => ∀ t, t < i → sf_ok f s h (sf_tri t)) 84 () (fun t ht => absurd ht (Nat.not_lt_zero t)) ?_ ?_
  · intro n _ I
    refine br_t sf_le84 (hall (fun t ht => ?_))
    by_cases z : sf_sz t ≤ 6
    · have h1 := sf_rk_ok t ht z
      have h2 := I _ h1.1
      rw [h1.2] at h2
      exact h2
    · exact fun q => absurd (sf_Sup_z Sf ht (by omega)) q
  · intro n i _ hi I hk
    have oi := sf_tri_ok i hi
    have he := sf_ex_ok s hs _ oi.1
    refine br_f (sf_nle84 hi) ⟨sf_in84 hi, sf_yE hs oi.1 (sf_tr P hi) ⟨sf_in84 hi, sf_yD oi.1 (sf_tr P hi) ?_⟩⟩
    refine pk_eq (sf_ex s (sf_tri i)) 0 (fun z => ?_) (fun z => ?_) rfl rfl (by omega) (by omega)
    · refine sf_98 hx hs hh Hf Bf hi ?_ (fun q => hk () (lt_s I q)) (fun q => hnot (fun H => q (H _ oi.1)))
      rw [z, sf_nI0m]
    · exact sf_98 hx hs hh Hf Bf hi rfl (fun q => hk () (lt_s I q)) (fun q => hnot (fun H => q (H _ oi.1)))
