theorem i_vc0 : wpX_init (fun u => wpY_init (fun v => i_Rel 0 u v)) := by
  unfold wpX_init
  exact sf_yIn (fun pl tr P => ⟨0, fun _ _ => 0, fun _ => 0, pl, tr, fun _ => 0, by decide, rfl, rfl, P, fun s hs => absurd hs (Nat.not_lt_zero s)⟩)
theorem i_vc_clear {k : Nat} {u : SX} {v : SY} (I : i_Rel k u v) (hk : k + 5 ≤ 2560) : wpX_clear (fun r u' => wpY_clear (fun r' v' => r' = r ∧ i_Rel (k + 5) u' v') v) u := by
  obtain ⟨c, p, a, pl, tr, b, hc, rfl, rfl, P, G⟩ := I
  exact ⟨rfl, 0, p, a, pl, tr, b, by decide, rfl, rfl, P, fun s hs => absurd hs (Nat.not_lt_zero s)⟩
theorem i_vc_symbol {k : Nat} {u : SX} {v : SY} (I : i_Rel k u v) (hk : k + 5 ≤ 2560) (v1 : Int32) : wpX_symbol (fun r u' => wpY_symbol (fun r' v' => r' = r ∧ i_Rel (k + 5) u' v') v v1) u v1 := by
  have J := i_up I
  obtain ⟨c, p, a, pl, tr, b, hc, rfl, rfl, P, G⟩ := I
  unfold wpX_symbol wpY_symbol
  rcases sf_sy v1 with hb | ⟨s, hs, rfl⟩
  · exact sf_xY_f hb (br_t rfl (sf_yY_f hb (br_f sf_10 ⟨rfl, J⟩)))
  · rcases sf_c16 hc with h | h
    · have hu := sf_un_ok s hs
      have hr := sf_rk_ok (sf_un s) (by omega) (by omega)
      refine sf_xY_t hs (br_f sf_10 (sf_xF_0 h (br_t rfl (sf_xU hs (sf_xT (c := 1) (by omega) (by omega) (fun a' H F => nm_r (nI_1 c) ?_))))))
      refine sf_yY_t hs (br_t rfl (sf_yF_0 h (br_t rfl (sf_y0 (s := 16) (by decide) (fun b1 H1 F1 => sf_yU hs ⟨vp_in_nI (by omega) (by decide), ?_⟩)))))
      have ep := sf_pl P (t := sf_un s) (by omega) (by omega) rfl
      have hin : vp_in (1344 + pl (nI (sf_un s)).toNatClampNeg) 2016 := by
        rw [ep]
        exact sf_in16 hr.1
      have hcl : (1344 + pl (nI (sf_un s)).toNatClampNeg).toNatClampNeg = 84 * 16 + sf_rk (sf_un s) := by
        rw [ep]
        exact sf_cl16 hr.1
      refine ⟨hin, nm_r (sf_upd_at hcl rfl) (sf_yK h (sf_HY_u (v := 1) H1 (by omega) (by omega)) (fun b2 H2 F2 => ⟨rfl, sf_new h P G (sf_KF F) H (fun s' h1 h2 t ht => ?_) H2 (sf_trm_B (by decide)) (sf_trm_S (by omega))⟩))⟩
      rw [F2 s' h2 t ht, sf_FY_u hr.1 s' (by omega) t ht, F1 s' (by omega) t ht]
    · exact sf_xY_t hs (br_f sf_10 (sf_xF_1 h (br_f sf_10 (sf_yY_t hs (br_t rfl (sf_yF_1 h (br_f sf_10 ⟨rfl, J⟩)))))))
theorem i_vc_number {k : Nat} {u : SX} {v : SY} (I : i_Rel k u v) (hk : k + 5 ≤ 2560) (v1 : Int32) : wpX_number (fun r u' => wpY_number (fun r' v' => r' = r ∧ i_Rel (k + 5) u' v') v v1) u v1 := by
  have J := i_up I
  obtain ⟨c, p, a, pl, tr, b, hc, rfl, rfl, P, G⟩ := I
  unfold wpX_number wpY_number
  rcases sf_c16 hc with h | h
  · obtain ⟨w, hw, _, hX, hY⟩ := sf_red v1
    refine sf_xF_0 h (br_t rfl (hX _ (sf_xT (t := 0) (by omega) (by decide) (fun a' H F => nm_r (nI_1 c) ?_))))
    refine sf_yF_0 h (br_t rfl (sf_y0 (s := 16) (by decide) (fun b1 H1 F1 => hY _ _ _ _ _ (nm_e ?_))))
    have H2 : sf_HY (upd b1 1344 (nI w)) 16 (fun m => if m = 0 then w else 0) := sf_HY_u (t := 0) (v := w) H1 (by decide) (by decide)
    have F2 : sf_FY 16 b1 (upd b1 1344 (nI w)) := sf_FY_u (t := 0) (by decide)
    refine sf_yK h H2 (fun b3 H3 F3 => ⟨rfl, sf_new h P G (sf_KF F) H (fun s' h1 h2 t ht => ?_) H3 (sf_trm_B hw) (sf_trm_S (by decide))⟩)
    rw [F3 s' h2 t ht, F2 s' (by omega) t ht, F1 s' (by omega) t ht]
  · exact sf_xF_1 h (br_f sf_10 (sf_yF_1 h (br_f sf_10 ⟨rfl, J⟩)))
theorem sf_ms {k c K : Nat} {X3 : Int32} {p : Nat → Nat → Nat} {a pl tr b : Nat → Int32} (hK : K < 10007) (hw : ∀ f g : Nat, f < 10007 → g < 10007 → ∀ v : Nat, v < 10007 → (v : Int) = (nI f + X3 * nI g).toInt % 10007 → v = (f + K * g) % 10007)
    (hc : c ≤ 16) (P : sf_PL pl tr) (G : ∀ s, s < c → sf_Gd a b s (p s)) (v1 v2 : Int32) : wpX_makeSum (fun r u' => wpY_combine (fun r' v' => r' = r ∧ i_Rel k u' v') (nI c, pl, tr, b) v1 v2 X3) (nI c, a) v1 v2 (nI K) := by
  have J : i_Rel k (nI c, a) (nI c, pl, tr, b) := ⟨c, p, a, pl, tr, b, hc, rfl, rfl, P, G⟩
  unfold wpX_makeSum wpY_combine
  rcases sf_ixc v1 hc with hb | ⟨x, hx, rfl⟩
  · exact sf_xI_f hb (br_t rfl (sf_yB_f hb (br_f sf_10 ⟨rfl, J⟩)))
  · rcases sf_ixc v2 hc with hb | ⟨y, hy, rfl⟩
    · exact sf_xI_t hc hx (br_f sf_10 (sf_xI_f hb (br_t rfl (sf_yB_t hc hx (br_t rfl (sf_yB_f hb (br_f sf_10 ⟨rfl, J⟩)))))))
    · rcases sf_c16 hc with h | h
      · obtain ⟨HXx, HYx, Bx, Sx⟩ := G x hx
        obtain ⟨HXy, HYy, By, Sy⟩ := G y hy
        refine sf_xI_t hc hx (br_f sf_10 (sf_xI_t hc hy (br_f sf_10 (sf_xF_0 h (br_t rfl (sf_x0 (by omega) (fun a1 H1 F1 => ?_)))))))
        refine sf_xM (k := 1) (sh := 0) (by omega) (by omega) (by omega) (by decide) (by decide) rfl H1 (sf_HX_f HXx F1 (by omega)) (fun _ _ => by decide) Bx (fun a2 H2 F2 => ?_)
        have H2' : sf_HX a2 c (p x) := sf_HX_c H2 (fun t ht => by
          rw [if_pos (Nat.zero_le _), Nat.one_mul, Nat.zero_add, Nat.sub_zero]
          exact Nat.mod_eq_of_lt (Bx t ht))
        refine sf_xM (k := K) (sh := 0) (by omega) (by omega) (by omega) hK (by decide) rfl H2' (sf_HX_f (sf_HX_f HXy F1 (by omega)) F2 (by omega)) Bx By (fun a3 H3 F3 => nm_r (nI_1 c) ?_)
        have H3' : sf_HX a3 c (fun t => (p x t + K * p y t) % 10007) := sf_HX_c H3 (fun t ht => by
          rw [if_pos (Nat.zero_le _), Nat.sub_zero])
        refine sf_yB_t hc hx (br_t rfl (sf_yB_t hc hy (br_t rfl (sf_yF_0 h (br_t rfl (sf_yCo (w := fun t => (p x t + K * p y t) % 10007) h (by omega) (by omega) HYx HYy (fun t ht v hv e => hw _ _ (Bx t ht) (By t ht) v hv e) (fun b1 H4 _ L => ⟨rfl, sf_new h P G (sf_KF (sf_FX_t (sf_FX_t F1 F2) F3)) H3' L H4 (fun _ _ => sf_mlt _) (fun t ht hne => ?_)⟩)))))))
        by_cases z : sf_sz t ≤ 6
        · exact z
        · refine absurd ?_ hne
          rw [sf_Sup_z Sx ht (by omega), sf_Sup_z Sy ht (by omega), Nat.mul_zero]
      · exact sf_xI_t hc hx (br_f sf_10 (sf_xI_t hc hy (br_f sf_10 (sf_xF_1 h (br_f sf_10 (sf_yB_t hc hx (br_t rfl (sf_yB_t hc hy (br_t rfl (sf_yF_1 h (br_f sf_10 ⟨rfl, J⟩)))))))))))
theorem i_vc_add {k : Nat} {u : SX} {v : SY} (I : i_Rel k u v) (hk : k + 5 ≤ 2560) (v1 : Int32) (v2 : Int32) : wpX_add (fun r u' => wpY_add (fun r' v' => r' = r ∧ i_Rel (k + 5) u' v') v v1 v2) u v1 v2 := by
  obtain ⟨c, p, a, pl, tr, b, hc, rfl, rfl, P, G⟩ := I
  unfold wpX_add wpY_add
  exact sf_ms (K := 1) (by decide) (fun f g hf hg v hv e => sf_wA hf hg v hv e) hc P G v1 v2
theorem i_vc_subtract {k : Nat} {u : SX} {v : SY} (I : i_Rel k u v) (hk : k + 5 ≤ 2560) (v1 : Int32) (v2 : Int32) : wpX_subtract (fun r u' => wpY_subtract (fun r' v' => r' = r ∧ i_Rel (k + 5) u' v') v v1 v2) u v1 v2 := by
  obtain ⟨c, p, a, pl, tr, b, hc, rfl, rfl, P, G⟩ := I
  unfold wpX_subtract wpY_subtract
  exact sf_ms (K := 10006) (by decide) (fun f g hf hg v hv e => sf_wS hf hg v hv e) hc P G v1 v2
theorem i_vc_multiply {k : Nat} {u : SX} {v : SY} (I : i_Rel k u v) (hk : k + 5 ≤ 2560) (v1 : Int32) (v2 : Int32) : wpX_multiply (fun r u' => wpY_multiply (fun r' v' => r' = r ∧ i_Rel (k + 5) u' v') v v1 v2) u v1 v2 := by
  have J := i_up I
  obtain ⟨c, p, a, pl, tr, b, hc, rfl, rfl, P, G⟩ := I
  unfold wpX_multiply wpY_multiply
  rcases sf_ixc v1 hc with hb | ⟨x, hx, rfl⟩
  · exact sf_xI_f hb (br_t rfl (sf_yB_f hb (br_f sf_10 ⟨rfl, J⟩)))
  · rcases sf_ixc v2 hc with hb | ⟨y, hy, rfl⟩
    · exact sf_xI_t hc hx (br_f sf_10 (sf_xI_f hb (br_t rfl (sf_yB_t hc hx (br_t rfl (sf_yB_f hb (br_f sf_10 ⟨rfl, J⟩)))))))
    · rcases sf_c16 hc with h | h
      · obtain ⟨HXx, HYx, Bx, Sx⟩ := G x hx
        obtain ⟨HXy, HYy, By, Sy⟩ := G y hy
        have h7x := sf_hx_7 Sx
        have h7y := sf_hx_7 Sy
        have hsx := sf_hx_sup (p x)
        have hsy := sf_hx_sup (p y)
        refine sf_xI_t hc hx (br_f sf_10 (sf_xI_t hc hy (br_f sf_10 (sf_xF_0 h (br_t rfl (sf_xH (by omega) HXx Bx (sf_xH (by omega) HXy By ?_)))))))
        have hyd : ∀ post : Int32 → Prop, post (sf_I (sf_hx (p x) sf_sz 343)) → wpY_degreeOf post (nI c, pl, tr, b) (nI x) := fun post hp => sf_yH P (by omega) HYx Bx Sx hp
        have hye : ∀ post : Int32 → Prop, post (sf_I (sf_hx (p y) sf_sz 343)) → wpY_degreeOf post (nI c, pl, tr, b) (nI y) := fun post hp => sf_yH P (by omega) HYy By Sy hp
        generalize sf_hx (p x) sf_sz 343 = dx at h7x hsx hyd
        generalize sf_hx (p y) sf_sz 343 = dy at h7y hsy hye
        have hdd := sf_dd dx (by omega) dy (by omega)
        by_cases z : dx + dy ≤ 8
        · refine br_t (hdd.mpr z) (sf_xP (by omega) (by omega) (by omega) (by omega) (by omega) HXx HXy Bx By (fun a1 H1 F1 => nm_r (nI_1 c) ?_))
          have Z : wY_multiply_62 (fun r' v' => r' = nI c ∧ i_Rel (k + 5) (nI (c + 1), a1) v') (nI x) (nI y) (nI c) pl tr b := by
            unfold wY_multiply_62
            refine sf_yT (tg := 16) P (by decide) (by omega) (by omega) (by omega) (by omega) HYx HYy Bx By hsx hsy (by omega) (fun b1 H2 F2 => sf_yK h H2 (fun b2 H3 F3 => ⟨rfl, sf_new h P G (sf_KF F1) H1 (fun s' h1 h2 t ht => ?_) H3 (sf_pm_B _ _) (sf_Sup_w (sf_pm_sup hsx hsy (by omega)) (by omega))⟩))
            rw [F3 s' h2 t ht, F2 s' (by omega) t ht]
          exact sf_yB_t hc hx (br_t rfl (sf_yB_t hc hy (br_t rfl (sf_yF_0 h (br_t rfl (hyd _ (hye _ (br_c (fun _ => Z) (fun _ => br_c (fun _ => Z) (fun _ => br_t (hdd.mpr z) Z))))))))))
        · refine br_f (fun q => z (hdd.mp q)) ?_
          exact sf_yB_t hc hx (br_t rfl (sf_yB_t hc hy (br_t rfl (sf_yF_0 h (br_t rfl (hyd _ (hye _ (br_f (fun q => by have := (sf_dn dx (by omega)).mp q; omega) (br_f (fun q => by have := (sf_dn dy (by omega)).mp q; omega) (br_f (fun q => z (hdd.mp q)) ⟨rfl, J⟩))))))))))
      · exact sf_xI_t hc hx (br_f sf_10 (sf_xI_t hc hy (br_f sf_10 (sf_xF_1 h (br_f sf_10 (sf_yB_t hc hx (br_t rfl (sf_yB_t hc hy (br_t rfl (sf_yF_1 h (br_f sf_10 ⟨rfl, J⟩)))))))))))
