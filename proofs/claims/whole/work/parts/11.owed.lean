theorem sf_xPw {post : Int32 → SX → Prop} {a : Nat → Int32} {c x n : Nat} {g : Nat → Nat} (hc : c < 16) (hx : x < 16) (hxc : x ≠ c) (hn : n < 7) (Hg : sf_HX a x g) (Bg : sf_B g) (H : sf_HX a c sf_one)
    (h : ∀ a', sf_HX a' c (sf_pw g n) → sf_F2 c 16 a a' → post (nI c) (nI (c + 1), a')) : ∃ m, wX_power_60 post (nI x) (nI n) m 0 (nI c) a := by
  refine loop_0 (fun m i (b : Nat → Int32) => wX_power_60 post (nI x) (nI n) m (nI i) (nI c) b) (fun i b => sf_HX b c (sf_pw g i) ∧ sf_F2 c 16 a b) n a ⟨H, fun _ _ _ _ _ => rfl⟩ ?_ ?_
  · intro m b I
    exact br_t (nI_le (Nat.le_refl _) (by omega)) (nm_r (nI_1 c) (h b I.1 I.2))
  · intro m i b hi I hk
    exact br_f (nI_ge hi (by omega)) (sf_xQ (by omega) hx (by omega) hxc I.1 (sf_HX_2 Hg I.2 hxc (by omega)) (sf_pw_B g i) Bg (fun b1 H1 F1 => nm_r (nI_1 i) (hk b1 ⟨H1, fun s' h1 h2 t ht => (F1 s' h1 h2 t ht).trans (I.2 s' h1 h2 t ht)⟩)))
theorem i_vc_power {k : Nat} {u : SX} {v : SY} (I : i_Rel k u v) (hk : k + 5 ≤ 2560) (v1 : Int32) (v2 : Int32) : wpX_power (fun r u' => wpY_power (fun r' v' => r' = r ∧ i_Rel (k + 5) u' v') v v1 v2) u v1 v2 := by
  have J := i_up I
  obtain ⟨c, p, a, pl, tr, b, hc, rfl, rfl, P, G⟩ := I
  unfold wpX_power wpY_power
  rcases sf_ixc v1 hc with hb | ⟨x, hx, rfl⟩
  · exact sf_xI_f hb (br_t rfl (sf_yB_f hb (br_f sf_10 ⟨rfl, J⟩)))
  · rcases sf_c16 hc with h | h
    · refine sf_xI_t hc hx (br_f sf_10 (sf_xF_0 h (br_t rfl ?_)))
      rcases pk_ix v2 (n := 7) (by decide) with hn | hn | ⟨n, hn, rfl⟩
      · exact br_t hn (sf_yB_t hc hx (br_t rfl (sf_yF_0 h (br_t rfl (br_t hn ⟨rfl, J⟩)))))
      · have h0 : ¬ v2 < 0 := Int32.not_lt.mpr (Int32.le_trans (show (0 : Int32) ≤ nI 7 by decide) hn)
        have h6 : ¬ v2 ≤ 6 := Int32.not_le.mpr (Int32.lt_of_lt_of_le (show (6 : Int32) < nI 7 by decide) hn)
        exact br_f h0 (br_f h6 (sf_yB_t hc hx (br_t rfl (sf_yF_0 h (br_t rfl (br_f h0 (br_f h6 ⟨rfl, J⟩)))))))
      · have h0 : ¬ nI n < 0 := nI_pos (by omega)
        have h6 : nI n ≤ 6 := nI_le (a := n) (b := 6) (by omega) (by decide)
        obtain ⟨HXx, HYx, Bx, Sx⟩ := G x hx
        have h7x := sf_hx_7 Sx
        have hsx := sf_hx_sup (p x)
        refine br_f h0 (br_t h6 (sf_xH (by omega) HXx Bx ?_))
        have hyd : ∀ post : Int32 → Prop, post (sf_I (sf_hx (p x) sf_sz 343)) → wpY_degreeOf post (nI c, pl, tr, b) (nI x) := fun post hp => sf_yH P (by omega) HYx Bx Sx hp
        generalize sf_hx (p x) sf_sz 343 = dx at h7x hsx hyd
        have hdp := sf_dp dx (by omega) n hn
        by_cases z : n * (dx - 1) ≤ 6
        · refine br_t (hdp.mpr z) (sf_xT (c := 1) (t := 0) (by omega) (by decide) (fun a1 H1 F1 => sf_xPw h (by omega) (by omega) hn (sf_HX_f HXx F1 (by omega)) Bx H1 (fun a2 H2 F2 => ?_)))
          refine sf_yB_t hc hx (br_t rfl (sf_yF_0 h (br_t rfl (br_f h0 (br_t h6 (hyd _ (br_t (hdp.mpr z) (sf_y0 (s := 16) (by decide) (fun b1 H3 F3 => nm_e ?_)))))))))
          have H4 : sf_HY (upd b1 1344 1) 16 (fun m => if m = 0 then 1 else 0) := sf_HY_u (t := 0) (v := 1) H3 (by decide) (by decide)
          have F4 : sf_FY 16 b1 (upd b1 1344 1) := sf_FY_u (t := 0) (by decide)
          refine sf_yPw P h (by omega) hn (sf_HY_f (sf_HY_f HYx F3 (by omega)) F4 (by omega)) Bx hsx z H4 (fun b2 H5 L => ⟨rfl, sf_new h P G (fun s' h1 t ht => ?_) H2 (fun s' h1 h2 t ht => ?_) H5 (sf_pw_B _ _) (sf_Sup_w (sf_pw_sup hsx n z) z)⟩)
          · rw [F2 s' (by omega) (by omega) t ht, F1 s' (by omega) t ht]
          · rw [L s' h1 h2 t ht, F4 s' (by omega) t ht, F3 s' (by omega) t ht]
        · exact br_f (fun q => z (hdp.mp q)) (sf_yB_t hc hx (br_t rfl (sf_yF_0 h (br_t rfl (br_f h0 (br_t h6 (hyd _ (br_f (fun q => z (hdp.mp q)) ⟨rfl, J⟩))))))))
    · exact sf_xI_t hc hx (br_f sf_10 (sf_xF_1 h (br_f sf_10 (sf_yB_t hc hx (br_t rfl (sf_yF_1 h (br_f sf_10 ⟨rfl, J⟩)))))))
theorem i_vc_derive {k : Nat} {u : SX} {v : SY} (I : i_Rel k u v) (hk : k + 5 ≤ 2560) (v1 : Int32) (v2 : Int32) : wpX_derive (fun r u' => wpY_derive (fun r' v' => r' = r ∧ i_Rel (k + 5) u' v') v v1 v2) u v1 v2 := by
  have J := i_up I
  obtain ⟨c, p, a, pl, tr, b, hc, rfl, rfl, P, G⟩ := I
  unfold wpX_derive wpY_derive
  rcases sf_ixc v1 hc with hb | ⟨x, hx, rfl⟩
  · exact sf_xI_f hb (br_t rfl (sf_yB_f hb (br_f sf_10 ⟨rfl, J⟩)))
  · rcases sf_c16 hc with h | h
    · refine sf_xI_t hc hx (br_f sf_10 (sf_xF_0 h (br_t rfl ?_)))
      rcases sf_sy v2 with hb | ⟨s, hs, rfl⟩
      · exact sf_xY_f hb (br_t rfl (sf_yB_t hc hx (br_t rfl (sf_yF_0 h (br_t rfl (sf_yY_f hb (br_f sf_10 ⟨rfl, J⟩)))))))
      · obtain ⟨HXx, HYx, Bx, Sx⟩ := G x hx
        refine sf_xY_t hs (br_f sf_10 (sf_xV (by omega) (by omega) (by omega) hs HXx Bx (fun a1 H1 F1 => nm_r (nI_1 c) ?_)))
        refine sf_yB_t hc hx (br_t rfl (sf_yF_0 h (br_t rfl (sf_yY_t hs (br_t rfl (sf_y0 (s := 16) (by decide) (fun b1 H2 F2 => ?_)))))))
        refine sf_yDv P h (by omega) hs (sf_HY_f HYx F2 (by omega)) Bx Sx H2 (fun b2 H3 L => ⟨rfl, sf_new h P G (sf_KF F1) H1 (fun s' h1 h2 t ht => ?_) H3 (sf_dv_B _ _) (sf_dv_sup hs Sx)⟩)
        rw [L s' h1 h2 t ht, F2 s' (by omega) t ht]
    · exact sf_xI_t hc hx (br_f sf_10 (sf_xF_1 h (br_f sf_10 (sf_yB_t hc hx (br_t rfl (sf_yF_1 h (br_f sf_10 ⟨rfl, J⟩)))))))
theorem i_vc_substitute {k : Nat} {u : SX} {v : SY} (I : i_Rel k u v) (hk : k + 5 ≤ 2560) (v1 : Int32) (v2 : Int32) (v3 : Int32) : wpX_substitute (fun r u' => wpY_substitute (fun r' v' => r' = r ∧ i_Rel (k + 5) u' v') v v1 v2 v3) u v1 v2 v3 := by
  have J := i_up I
  obtain ⟨c, p, a, pl, tr, b, hc, rfl, rfl, P, G⟩ := I
  unfold wpX_substitute wpY_substitute
  rcases sf_ixc v1 hc with hb | ⟨x, hx, rfl⟩
  · exact sf_xI_f hb (br_t rfl (sf_yB_f hb (br_f sf_10 ⟨rfl, J⟩)))
  · rcases sf_ixc v3 hc with hb | ⟨y, hy, rfl⟩
    · exact sf_xI_t hc hx (br_f sf_10 (sf_xI_f hb (br_t rfl (sf_yB_t hc hx (br_t rfl (sf_yB_f hb (br_f sf_10 ⟨rfl, J⟩)))))))
    · rcases sf_c16 hc with h | h
      · refine sf_xI_t hc hx (br_f sf_10 (sf_xI_t hc hy (br_f sf_10 (sf_xF_0 h (br_t rfl ?_)))))
        rcases sf_sy v2 with hb | ⟨s, hs, rfl⟩
        · exact sf_xY_f hb (br_t rfl (sf_yB_t hc hx (br_t rfl (sf_yB_t hc hy (br_t rfl (sf_yF_0 h (br_t rfl (sf_yY_f hb (br_f sf_10 ⟨rfl, J⟩)))))))))
        · obtain ⟨HXx, HYx, Bx, Sx⟩ := G x hx
          obtain ⟨HXy, HYy, By, Sy⟩ := G y hy
          have h7y := sf_hx_7 Sy
          have hsy := sf_hx_sup (p y)
          have hyd : ∀ post : Int32 → Prop, post (sf_I (sf_hx (p y) sf_sz 343)) → wpY_degreeOf post (nI c, pl, tr, b) (nI y) := fun post hp => sf_yH P (by omega) HYy By Sy hp
          refine sf_xY_t hs (br_f sf_10 (sf_xS (by omega) (by omega) hs HXx HXy Bx By Sy (fun E => ?_) (fun E => ?_)))
          · refine br_t rfl (sf_xZ h (by omega) (by omega) (by omega) (by omega) hs HXx HXy Bx By (fun a1 H1 F1 => nm_r (nI_1 c) ?_))
            refine sf_yB_t hc hx (br_t rfl (sf_yB_t hc hy (br_t rfl (sf_yF_0 h (br_t rfl (sf_yY_t hs (br_t rfl (hyd _ (sf_y49 P (by omega) hs (by omega) HYx Bx Sx (fun _ => ?_) (fun n => absurd E n))))))))))
            refine sf_y0 (s := 18) (by decide) (fun b1 H2 F2 => sf_y141 P h (by omega) (by omega) hs (sf_HY_f HYx F2 (by omega)) (sf_HY_f HYy F2 (by omega)) Bx By Sx hsy (sf_okd Sx E) H2 (fun b2 H3 L => ⟨rfl, sf_new h P G (fun s' h1 t ht => F1 s' (by omega) (by omega) t ht) H1 (fun s' h1 h2 t ht => ?_) H3 (sf_sb_B _ _ _) (sf_sb_sup hs hsy (sf_okd Sx E))⟩))
            rw [L s' h1 h2 t ht, F2 s' (by omega) t ht]
          · exact br_f sf_10 (sf_yB_t hc hx (br_t rfl (sf_yB_t hc hy (br_t rfl (sf_yF_0 h (br_t rfl (sf_yY_t hs (br_t rfl (hyd _ (sf_y49 P (by omega) hs (by omega) HYx Bx Sx (fun n => absurd n E) (fun _ => ⟨rfl, J⟩)))))))))))
      · exact sf_xI_t hc hx (br_f sf_10 (sf_xI_t hc hy (br_f sf_10 (sf_xF_1 h (br_f sf_10 (sf_yB_t hc hx (br_t rfl (sf_yB_t hc hy (br_t rfl (sf_yF_1 h (br_f sf_10 ⟨rfl, J⟩)))))))))))
