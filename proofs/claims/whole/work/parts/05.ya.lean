/-! Y: rows of 84 -/
def sf_PL (pl tr : Nat → Int32) : Prop := (∀ t, t < 343 → pl t = if sf_sz t ≤ 6 then nI (sf_rk t) else -1) ∧ ∀ i, i < 84 → tr i = nI (sf_tri i)
def sf_HY (b : Nat → Int32) (s : Nat) (f : Nat → Nat) : Prop := ∀ i, i < 84 → b (84 * s + i) = nI (f (sf_tri i))
def sf_FY (s : Nat) (a a' : Nat → Int32) : Prop := ∀ s', s' ≠ s → ∀ t, t < 84 → a' (84 * s' + t) = a (84 * s' + t)
theorem sf_HY_f {a a' : Nat → Int32} {s s' : Nat} {f : Nat → Nat} (h : sf_HY a s' f) (F : sf_FY s a a') (hn : s' ≠ s) : sf_HY a' s' f := fun t ht => (F s' hn t ht).trans (h t ht)
theorem sf_FY_r {s : Nat} {a : Nat → Int32} : sf_FY s a a := fun _ _ _ _ => rfl
theorem sf_FY_t {s : Nat} {a b c : Nat → Int32} (h : sf_FY s a b) (k : sf_FY s b c) : sf_FY s a c := fun s' hn t ht => (k s' hn t ht).trans (h s' hn t ht)
theorem sf_FY_u {s t : Nat} {a : Nat → Int32} {v : Int32} (ht : t < 84) : sf_FY s a (upd a (84 * s + t) v) := fun s' hn t' ht' => pk_un (by omega)
theorem sf_HY_c {a : Nat → Int32} {s : Nat} {f g : Nat → Nat} (h : sf_HY a s f) (e : ∀ t, t < 343 → f t = g t) : sf_HY a s g := fun t ht => (h t ht).trans (congrArg nI (e _ (sf_tri_ok t ht).1))
theorem sf_iy (s t : Nat) : 84 * nI s + nI t = nI (84 * s + t) := by
  rw [show (84 : Int32) = nI 84 from rfl, pk_mul, nI_add]
theorem sf_inY {s t : Nat} (hs : s < 24) (ht : t < 84) : vp_in (84 * nI s + nI t) 2016 := by
  rw [sf_iy]
  exact vp_in_nI (by omega) (by decide)
theorem sf_clY {s t : Nat} (hs : s < 24) (ht : t < 84) : (84 * nI s + nI t).toNatClampNeg = 84 * s + t := by
  rw [sf_iy]
  exact nI_clamp (by omega)
theorem sf_rdY {a : Nat → Int32} {s t : Nat} {f : Nat → Nat} (H : sf_HY a s f) (hs : s < 24) (ht : t < 84) : a (84 * nI s + nI t).toNatClampNeg = nI (f (sf_tri t)) := by
  rw [sf_clY hs ht]
  exact H t ht
theorem sf_le84 : (84 : Int32) ≤ nI 84 := nI_le (a := 84) (b := 84) (Nat.le_refl _) (by decide)
theorem sf_nle84 {i : Nat} (h : i < 84) : ¬ (84 : Int32) ≤ nI i := nI_ge (a := i) (b := 84) h (by decide)
theorem sf_in84 {i : Nat} (h : i < 84) : vp_in (nI i) 84 := vp_in_nI h (by decide)
theorem sf_tr {pl tr : Nat → Int32} (P : sf_PL pl tr) {i : Nat} (h : i < 84) : tr (nI i).toNatClampNeg = nI (sf_tri i) := by
  rw [nI_clamp (by omega)]
  exact P.2 i h
theorem sf_pl {pl tr : Nat → Int32} (P : sf_PL pl tr) {t : Nat} (h : t < 343) (hz : sf_sz t ≤ 6) {T : Int32} (eT : T = nI t) : pl T.toNatClampNeg = nI (sf_rk t) := by
  rw [eT, nI_clamp (by omega), P.1 t h, if_pos hz]
theorem sf_tB {f : Nat → Nat} (B : sf_B f) {i : Nat} (h : i < 84) : f (sf_tri i) < 10007 := B _ (sf_tri_ok i h).1
theorem sf_tri_inj {i t : Nat} (hi : i < 84) (h : sf_tri i = t) : i = sf_rk t := by
  rw [← h]
  exact (sf_tri_ok i hi).2.2.symm
theorem sf_yE {post : Int32 → Prop} {fc T : Int32} {pl tr b : Nat → Int32} {s t : Nat} (hs : s < 3) (ht : t < 343) (eT : T = nI t) (h : post (nI (sf_ex s t))) : wpY_part post (fc, pl, tr, b) T (nI s) := by
  subst eT
  rcases sf_3 hs with rfl | rfl | rfl
  · refine br_t nI_0 ⟨by decide, ?_⟩
    rw [sf_d49 ht]
    exact h
  · refine br_f sf_n10 (br_t sf_e11 ⟨by decide, by decide, ?_⟩)
    rw [sf_q7 ht]
    exact h
  · refine br_f sf_n20 (br_f sf_n21 ⟨by decide, ?_⟩)
    rw [sf_m7 ht]
    exact h
theorem sf_yD {post : Int32 → Prop} {fc T : Int32} {pl tr b : Nat → Int32} {t : Nat} (ht : t < 343) (eT : T = nI t) (h : post (nI (sf_sz t))) : wpY_size post (fc, pl, tr, b) T := by
  subst eT
  refine ⟨by decide, by decide, by decide, by decide, ?_⟩
  rw [sf_d49 ht, sf_q7 ht, sf_m7 ht, nI_add, nI_add]
  exact h
theorem sf_yU {post : Int32 → Prop} {fc : Int32} {pl tr b : Nat → Int32} {s : Nat} (hs : s < 3) (h : post (nI (sf_un s))) : wpY_unit post (fc, pl, tr, b) (nI s) := by
  rcases sf_3 hs with rfl | rfl | rfl
  · exact br_t nI_0 h
  · exact br_f sf_n10 (br_t sf_e11 h)
  · exact br_f sf_n20 (br_f sf_n21 h)
theorem sf_y0 {post : SY → Prop} {fc : Int32} {pl tr a : Nat → Int32} {s : Nat} (hs : s < 24) (h : ∀ a', sf_HY a' s (fun _ => 0) → sf_FY s a a' → post (fc, pl, tr, a')) : wpY_zero post (fc, pl, tr, a) (nI s) := by
  refine loop_0 (fun n i (b : Nat → Int32) => wY_zero_2 post (nI s) fc n (nI i) pl tr b) (fun i b => (∀ t, t < i → b (84 * s + t) = nI 0) ∧ sf_FY s a b) 84 a ⟨fun t ht => absurd ht (Nat.not_lt_zero t), sf_FY_r⟩ ?_ ?_
  · intro n b I
    exact br_t sf_le84 (h b I.1 I.2)
  · intro n i b hi I hk
    refine br_f (sf_nle84 hi) ⟨sf_inY hs hi, nm_r (sf_upd_at (sf_clY hs hi) rfl) (nm_r (nI_1 i) (hk _ ⟨fun t ht => ?_, sf_FY_t I.2 (sf_FY_u hi)⟩))⟩
    by_cases e : t = i
    · subst e
      exact pk_us
    · rw [pk_un (by omega)]
      exact I.1 t (by omega)
theorem sf_yC {post : SY → Prop} {fc : Int32} {pl tr a : Nat → Int32} {s z : Nat} {f : Nat → Nat} (hs : s < 24) (hz : z < 24) (hne : s ≠ z) (H : sf_HY a s f) (h : ∀ a', sf_HY a' z f → sf_FY z a a' → post (fc, pl, tr, a')) : wpY_copy post (fc, pl, tr, a) (nI s) (nI z) := by
  refine loop_0 (fun n i (b : Nat → Int32) => wY_copy_2 post (nI s) (nI z) fc n (nI i) pl tr b) (fun i b => (∀ t, t < i → b (84 * z + t) = nI (f (sf_tri t))) ∧ sf_FY z a b) 84 a ⟨fun t ht => absurd ht (Nat.not_lt_zero t), sf_FY_r⟩ ?_ ?_
  · intro n b I
    exact br_t sf_le84 (h b I.1 I.2)
  · intro n i b hi I hk
    refine br_f (sf_nle84 hi) ⟨sf_inY hs hi, sf_inY hz hi, nm_r (sf_upd_at (sf_clY hz hi) (sf_rdY (sf_HY_f H I.2 hne) hs hi)) (nm_r (nI_1 i) (hk _ ⟨fun t ht => ?_, sf_FY_t I.2 (sf_FY_u hi)⟩))⟩
    by_cases e : t = i
    · subst e
      exact pk_us
    · rw [pk_un (by omega)]
      exact I.1 t (by omega)
theorem sf_yT {post : SY → Prop} {fc : Int32} {pl tr a : Nat → Int32} {tg x y : Nat} {f g : Nat → Nat} {dx dy : Nat} (P : sf_PL pl tr) (htg : tg < 24) (hx : x < 24) (hy : y < 24) (hxt : x ≠ tg) (hyt : y ≠ tg)
    (Hf : sf_HY a x f) (Hg : sf_HY a y g) (Bf : sf_B f) (Bg : sf_B g) (Sf : sf_Sup dx f) (Sg : sf_Sup dy g) (hd : dx + dy ≤ 6)
    (h : ∀ a', sf_HY a' tg (sf_pm f g) → sf_FY tg a a' → post (fc, pl, tr, a')) : wpY_times post (fc, pl, tr, a) (nI tg) (nI x) (nI y) := by
  unfold wpY_times
  refine sf_y0 htg (fun b0 H0 F0 => ?_)
  refine loop_0 (fun n i (b : Nat → Int32) => wY_times_8 post (nI tg) (nI x) (nI y) fc n (nI i) pl tr b)
    (fun i b => sf_HY b tg (fun m => sf_sum i (fun p => sf_sum 84 (fun q => sf_Q f g (sf_tri p) (sf_tri q) m)) % 10007) ∧ sf_FY tg a b) 84 b0 ⟨H0, F0⟩ ?_ ?_
  · intro n b I
    exact br_t sf_le84 (h b (sf_HY_c I.1 (fun t ht => sf_pm_y Sf Sg hd ht)) I.2)
  · intro n i b hi I hk
    refine br_f (sf_nle84 hi) ?_
    refine loop_0 (fun n' j (c : Nat → Int32) => wY_times_18 post (wY_times_8 post (nI tg) (nI x) (nI y) fc n) (nI tg) (nI x) (nI y) (nI i) fc n' (nI j) pl tr c)
      (fun j c => sf_HY c tg (fun m => (sf_sum i (fun p => sf_sum 84 (fun q => sf_Q f g (sf_tri p) (sf_tri q) m)) + sf_sum j (fun q => sf_Q f g (sf_tri i) (sf_tri q) m)) % 10007) ∧ sf_FY tg a c) 84 b I ?_ ?_
    · intro n' c J
      exact br_t sf_le84 (nm_r (nI_1 i) (hk c J))
    · intro n' j c hj J hk'
      have hfi := sf_tB Bf hi
      have hgj := sf_tB Bg hj
      have oi := sf_tri_ok i hi
      have oj := sf_tri_ok j hj
      have z0 : ∀ m, sf_Q f g (sf_tri i) (sf_tri j) m = 0 → (sf_sum i (fun p => sf_sum 84 (fun q => sf_Q f g (sf_tri p) (sf_tri q) m)) + sf_sum j (fun q => sf_Q f g (sf_tri i) (sf_tri q) m)) % 10007
          = (sf_sum i (fun p => sf_sum 84 (fun q => sf_Q f g (sf_tri p) (sf_tri q) m)) + sf_sum (j + 1) (fun q => sf_Q f g (sf_tri i) (sf_tri q) m)) % 10007 := by
        intro m hm
        show _ = (_ + (sf_sum j (fun q => sf_Q f g (sf_tri i) (sf_tri q) m) + sf_Q f g (sf_tri i) (sf_tri j) m)) % 10007
        rw [hm, Nat.add_zero]
      refine br_f (sf_nle84 hj) ⟨sf_inY hx hi, nm_r (sf_rdY (sf_HY_f Hf J.2 hxt) hx hi) ⟨sf_inY hy hj, nm_r (sf_rdY (sf_HY_f Hg J.2 hyt) hy hj) ?_⟩⟩
      refine pk_eq (f (sf_tri i)) 0 (fun z => ?_) (fun z => ?_) rfl rfl (by omega) (by omega)
      · refine nm_r (nI_1 j) (hk' c ⟨sf_HY_c J.1 (fun m _ => z0 m ?_), J.2⟩)
        unfold sf_Q
        rw [z, Nat.zero_mul, ite_self]
      · refine pk_eq (g (sf_tri j)) 0 (fun z2 => ?_) (fun z2 => ?_) rfl rfl (by omega) (by omega)
        · refine nm_r (nI_1 j) (hk' c ⟨sf_HY_c J.1 (fun m _ => z0 m ?_), J.2⟩)
          unfold sf_Q
          rw [z2, Nat.mul_zero, ite_self]
        · refine ⟨sf_in84 hi, sf_yD oi.1 (sf_tr P hi) ⟨sf_in84 hj, sf_yD oj.1 (sf_tr P hj) ?_⟩⟩
          refine pk_lt 6 (sf_sz (sf_tri i) + sf_sz (sf_tri j)) (fun z3 => ?_) (fun z3 => ?_) rfl (nI_add _ _) (by omega) (by omega)
          · refine nm_r (nI_1 j) (hk' c ⟨sf_HY_c J.1 (fun m _ => z0 m ?_), J.2⟩)
            exact if_neg (by omega)
          · have hc := sf_carry oi.1 oj.1 z3
            have hz : sf_sz (sf_tri i + sf_tri j) ≤ 6 := by omega
            have hr := sf_rk_ok _ hc.1 hz
            have et : tr (nI i).toNatClampNeg + tr (nI j).toNatClampNeg = nI (sf_tri i + sf_tri j) := by
              rw [sf_tr P hi, sf_tr P hj, nI_add]
            have hv : vp_in (tr (nI i).toNatClampNeg + tr (nI j).toNatClampNeg) 343 := by
              rw [et]
              exact vp_in_nI hc.1 (by decide)
            generalize hk0 : sf_rk (sf_tri i + sf_tri j) = k at hr
            have e8 : 84 * nI tg + pl (tr (nI i).toNatClampNeg + tr (nI j).toNatClampNeg).toNatClampNeg = nI (84 * tg + k) := by
              rw [sf_pl P hc.1 hz et, hk0, sf_iy]
            have hin : vp_in (nI (84 * tg + k)) 2016 := vp_in_nI (by omega) (by decide)
            have hcl : (nI (84 * tg + k)).toNatClampNeg = 84 * tg + k := nI_clamp (by omega)
            have hrd : c (nI (84 * tg + k)).toNatClampNeg = nI ((sf_sum i (fun p => sf_sum 84 (fun q => sf_Q f g (sf_tri p) (sf_tri q) (sf_tri k))) + sf_sum j (fun q => sf_Q f g (sf_tri i) (sf_tri q) (sf_tri k))) % 10007) := by
              rw [hcl]
              exact J.1 k hr.1
            have hval : (c (nI (84 * tg + k)).toNatClampNeg + nI (f (sf_tri i)) * nI (g (sf_tri j))) - (c (nI (84 * tg + k)).toNatClampNeg + nI (f (sf_tri i)) * nI (g (sf_tri j))) / 10007 * 10007
                = nI (((sf_sum i (fun p => sf_sum 84 (fun q => sf_Q f g (sf_tri p) (sf_tri q) (sf_tri k))) + sf_sum j (fun q => sf_Q f g (sf_tri i) (sf_tri q) (sf_tri k))) % 10007 + f (sf_tri i) * g (sf_tri j)) % 10007) := by
              rw [hrd]
              exact sf_mac (sf_mlt _) hfi hgj
            refine ⟨sf_in84 hi, sf_in84 hj, hv, nm_r e8 ⟨hin, sf_7, hin, nm_r (sf_upd_at hcl hval) (nm_r (nI_1 j) (hk' _ ⟨fun t ht => ?_, sf_FY_t J.2 (sf_FY_u hr.1)⟩))⟩⟩
            by_cases e : t = k
            · subst e
              rw [pk_us, sf_amt]
              have hQ : sf_Q f g (sf_tri i) (sf_tri j) (sf_tri t) = f (sf_tri i) * g (sf_tri j) := if_pos ⟨z3, hr.2.symm⟩
              show _ = nI ((_ + (sf_sum j (fun q => sf_Q f g (sf_tri i) (sf_tri q) (sf_tri t)) + sf_Q f g (sf_tri i) (sf_tri j) (sf_tri t))) % 10007)
              rw [hQ, Nat.add_assoc]
            · rw [pk_un (by omega), J.1 t ht]
              refine congrArg nI (z0 (sf_tri t) (if_neg (fun q => e ?_)))
              rw [← hk0]
              exact sf_tri_inj ht q.2.symm
theorem sf_yH {post : Int32 → Prop} {fc : Int32} {pl tr a : Nat → Int32} {s : Nat} {f : Nat → Nat} (P : sf_PL pl tr) (hs : s < 24) (H : sf_HY a s f) (B : sf_B f) (S : sf_Sup 6 f) (h : post (sf_I (sf_hx f sf_sz 343))) : wpY_degreeOf post (fc, pl, tr, a) (nI s) := by
  rw [← sf_hx_re2 f sf_sz S] at h
  refine loop_0 (fun n i (x : Int32) => wY_degreeOf_4 post (nI s) fc pl tr a n x (nI i)) (fun i x => x = sf_I (sf_hx (fun i => f (sf_tri i)) (fun i => sf_sz (sf_tri i)) i)) 84 (-1) sf_I_0.symm ?_ ?_
  · intro n x I
    subst I
    exact br_t sf_le84 h
  · intro n i x hi I hk
    subst I
    have ea := sf_rdY H hs hi
    have hf := sf_tB B hi
    have oi := sf_tri_ok i hi
    refine br_f (sf_nle84 hi) ⟨sf_inY hs hi, ?_⟩
    by_cases z : f (sf_tri i) = 0
    · refine br_t (by rw [ea, z]; rfl) (nm_r (nI_1 i) (hk _ ?_))
      rw [sf_hx_0 (f := fun i => f (sf_tri i)) z]
    · refine br_f (by rw [ea]; exact nI_ne0 (by omega) (by omega)) ⟨sf_in84 hi, sf_yD oi.1 (sf_tr P hi) ?_⟩
      have hb : sf_hx (fun i => f (sf_tri i)) (fun i => sf_sz (sf_tri i)) i ≤ 7 := sf_hx_le i (fun t ht _ => by
        have := (sf_tri_ok t (by omega)).2.1
        omega)
      have h2 := sf_I_le (sf_sz (sf_tri i)) (by omega) (sf_hx (fun i => f (sf_tri i)) (fun i => sf_sz (sf_tri i)) i) (by omega)
      by_cases z2 : sf_sz (sf_tri i) + 1 ≤ sf_hx (fun i => f (sf_tri i)) (fun i => sf_sz (sf_tri i)) i
      · refine br_t (h2.mpr z2) (nm_r (nI_1 i) (hk _ ?_))
        rw [sf_hx_1 (f := fun i => f (sf_tri i)) z z2]
      · refine br_f (fun q => z2 (h2.mp q)) ⟨sf_in84 hi, sf_yD oi.1 (sf_tr P hi) (nm_r (nI_1 i) (hk _ ?_))⟩
        rw [sf_hx_2 (f := fun i => f (sf_tri i)) (w := fun i => sf_sz (sf_tri i)) z z2, sf_I_s]
theorem sf_yK {post : Int32 → SY → Prop} {pl tr a : Nat → Int32} {c : Nat} {f : Nat → Nat} (hc : c < 16) (H : sf_HY a 16 f) (h : ∀ a', sf_HY a' c f → sf_FY c a a' → post (nI c) (nI (c + 1), pl, tr, a')) : wpY_take post (nI c, pl, tr, a) := by
  unfold wpY_take
  refine sf_yC (s := 16) (by decide) (by omega) (by omega) H (fun b Hb Fb => nm_r (nI_1 c) ?_)
  rw [nI_pred]
  exact h b Hb Fb
