theorem i_vc_expressions {k : Nat} {u : SX} {v : SY} (I : i_Rel k u v) (hk : k + 5 ≤ 2560) : wpX_expressions (fun r => wpY_expressions (fun r' => r' = r ∧ i_Rel (k + 5) u v) v) u := by
  have J := i_up I
  obtain ⟨c, p, a, pl, tr, b, hc, rfl, rfl, P, G⟩ := I
  exact ⟨rfl, J⟩
theorem i_vc_same {k : Nat} {u : SX} {v : SY} (I : i_Rel k u v) (hk : k + 5 ≤ 2560) (v1 : Int32) (v2 : Int32) : wpX_same (fun r => wpY_same (fun r' => r' = r ∧ i_Rel (k + 5) u v) v v1 v2) u v1 v2 := by
  have J := i_up I
  obtain ⟨c, p, a, pl, tr, b, hc, rfl, rfl, P, G⟩ := I
  unfold wpX_same wpY_same
  rcases sf_ixc v1 hc with hb | ⟨x, hx, rfl⟩
  · exact sf_xI_f hb (br_t rfl (sf_yB_f hb (br_f sf_10 ⟨rfl, J⟩)))
  · rcases sf_ixc v2 hc with hb | ⟨y, hy, rfl⟩
    · exact sf_xI_t hc hx (br_f sf_10 (sf_xI_f hb (br_t rfl (sf_yB_t hc hx (br_t rfl (sf_yB_f hb (br_f sf_10 ⟨rfl, J⟩)))))))
    · obtain ⟨HXx, HYx, Bx, Sx⟩ := G x hx
      obtain ⟨HXy, HYy, By, Sy⟩ := G y hy
      refine sf_xI_t hc hx (br_f sf_10 (sf_xI_t hc hy (br_f sf_10 (sf_xR (by omega) (by omega) HXx HXy Bx By (fun e => br_f sf_10 ?_) (fun e => br_t rfl ?_)))))
      · exact sf_yB_t hc hx (br_t rfl (sf_yB_t hc hy (br_t rfl (sf_yR (by omega) (by omega) HYx HYy Bx By Sx Sy (fun _ => br_f sf_10 ⟨rfl, J⟩) (fun n => absurd e n)))))
      · exact sf_yB_t hc hx (br_t rfl (sf_yB_t hc hy (br_t rfl (sf_yR (by omega) (by omega) HYx HYy Bx By Sx Sy (fun n => absurd n e) (fun _ => br_t rfl ⟨rfl, J⟩)))))
theorem i_vc_degree {k : Nat} {u : SX} {v : SY} (I : i_Rel k u v) (hk : k + 5 ≤ 2560) (v1 : Int32) : wpX_degree (fun r => wpY_degree (fun r' => r' = r ∧ i_Rel (k + 5) u v) v v1) u v1 := by
  have J := i_up I
  obtain ⟨c, p, a, pl, tr, b, hc, rfl, rfl, P, G⟩ := I
  unfold wpX_degree wpY_degree
  rcases sf_ixc v1 hc with hb | ⟨x, hx, rfl⟩
  · exact sf_xI_f hb (br_t rfl (sf_yB_f hb (br_f sf_10 ⟨rfl, J⟩)))
  · obtain ⟨HXx, HYx, Bx, Sx⟩ := G x hx
    exact sf_xI_t hc hx (br_f sf_10 (sf_xH (by omega) HXx Bx (sf_yB_t hc hx (br_t rfl (sf_yH P (by omega) HYx Bx Sx ⟨rfl, J⟩)))))
theorem i_vc_degreeIn {k : Nat} {u : SX} {v : SY} (I : i_Rel k u v) (hk : k + 5 ≤ 2560) (v1 : Int32) (v2 : Int32) : wpX_degreeIn (fun r => wpY_degreeIn (fun r' => r' = r ∧ i_Rel (k + 5) u v) v v1 v2) u v1 v2 := by
  have J := i_up I
  obtain ⟨c, p, a, pl, tr, b, hc, rfl, rfl, P, G⟩ := I
  unfold wpX_degreeIn wpY_degreeIn
  rcases sf_ixc v1 hc with hb | ⟨x, hx, rfl⟩
  · exact sf_xI_f hb (br_t rfl (sf_yB_f hb (br_f sf_10 ⟨rfl, J⟩)))
  · obtain ⟨HXx, HYx, Bx, Sx⟩ := G x hx
    rcases sf_sy v2 with hb | ⟨s, hs, rfl⟩
    · exact sf_xI_t hc hx (br_f sf_10 (sf_xY_f hb (br_t rfl (sf_yB_t hc hx (br_t rfl (sf_yY_f hb (br_f sf_10 ⟨rfl, J⟩)))))))
    · exact sf_xI_t hc hx (br_f sf_10 (sf_xY_t hs (br_f sf_10 (sf_xG (by omega) hs HXx Bx (sf_yB_t hc hx (br_t rfl (sf_yY_t hs (br_t rfl (sf_yG P (by omega) hs HYx Bx Sx ⟨rfl, J⟩)))))))))
theorem i_vc_coefficient {k : Nat} {u : SX} {v : SY} (I : i_Rel k u v) (hk : k + 5 ≤ 2560) (v1 : Int32) (v2 : Int32) : wpX_coefficient (fun r => wpY_coefficient (fun r' => r' = r ∧ i_Rel (k + 5) u v) v v1 v2) u v1 v2 := by
  have J := i_up I
  obtain ⟨c, p, a, pl, tr, b, hc, rfl, rfl, P, G⟩ := I
  unfold wpX_coefficient wpY_coefficient
  rcases sf_ixc v1 hc with hb | ⟨x, hx, rfl⟩
  · exact sf_xI_f hb (br_t rfl (sf_yB_f hb (br_f sf_10 ⟨rfl, J⟩)))
  · obtain ⟨HXx, HYx, Bx, Sx⟩ := G x hx
    refine sf_xI_t hc hx (br_f sf_10 ?_)
    rcases pk_ix v2 (n := 343) (by decide) with hn | hn | ⟨t, ht, rfl⟩
    · exact br_t hn (sf_yB_t hc hx (br_t rfl (br_t hn ⟨rfl, J⟩)))
    · have h0 : ¬ v2 < 0 := Int32.not_lt.mpr (Int32.le_trans (show (0 : Int32) ≤ nI 343 by decide) hn)
      have h3 : ¬ v2 < 343 := Int32.not_lt.mpr hn
      have h2 : ¬ v2 ≤ 342 := Int32.not_le.mpr (Int32.lt_of_lt_of_le (show (342 : Int32) < nI 343 by decide) hn)
      exact br_f h0 (br_f h3 (sf_yB_t hc hx (br_t rfl (br_f h0 (br_f h2 ⟨rfl, J⟩)))))
    · have h0 : ¬ nI t < 0 := nI_pos (by omega)
      have h3 : nI t < 343 := nI_lt (a := t) (b := 343) ht (by decide)
      have h2 : nI t ≤ 342 := nI_le (a := t) (b := 342) (by omega) (by decide)
      have hin : vp_in (nI t) 343 := vp_in_nI ht (by decide)
      refine br_f h0 (br_t h3 ⟨sf_inX (by omega) ht, ?_⟩)
      rw [sf_rdX HXx (by omega) ht]
      refine sf_yB_t hc hx (br_t rfl (br_f h0 (br_t h2 ⟨hin, ?_⟩)))
      by_cases z : sf_sz t ≤ 6
      · have hr := sf_rk_ok t ht z
        have ep := sf_pl P ht z rfl
        have eb := sf_rdY HYx (by omega) hr.1
        rw [hr.2] at eb
        rw [ep]
        refine br_t (nI_pos' (by omega)) ⟨hin, sf_inY (by omega) hr.1, ?_⟩
        exact ⟨eb, J⟩
      · have ep : pl (nI t).toNatClampNeg = -1 := by
          rw [nI_clamp (by omega), P.1 t ht, if_neg z]
        rw [ep, sf_Sup_z Sx ht (by omega)]
        exact br_f (by decide) ⟨rfl, J⟩
theorem i_vc_terms {k : Nat} {u : SX} {v : SY} (I : i_Rel k u v) (hk : k + 5 ≤ 2560) (v1 : Int32) : wpX_terms (fun r => wpY_terms (fun r' => r' = r ∧ i_Rel (k + 5) u v) v v1) u v1 := by
  have J := i_up I
  obtain ⟨c, p, a, pl, tr, b, hc, rfl, rfl, P, G⟩ := I
  unfold wpX_terms wpY_terms
  rcases sf_ixc v1 hc with hb | ⟨x, hx, rfl⟩
  · exact sf_xI_f hb (br_t rfl (sf_yB_f hb (br_f sf_10 ⟨rfl, J⟩)))
  · obtain ⟨HXx, HYx, Bx, Sx⟩ := G x hx
    exact sf_xI_t hc hx (br_f sf_10 (sf_xN (by omega) HXx Bx (sf_yB_t hc hx (br_t rfl (sf_yN (by omega) HYx Bx Sx ⟨rfl, J⟩)))))
theorem i_vc_term {k : Nat} {u : SX} {v : SY} (I : i_Rel k u v) (hk : k + 5 ≤ 2560) (v1 : Int32) (v2 : Int32) : wpX_term (fun r => wpY_term (fun r' => r' = r ∧ i_Rel (k + 5) u v) v v1 v2) u v1 v2 := by
  have J := i_up I
  obtain ⟨c, p, a, pl, tr, b, hc, rfl, rfl, P, G⟩ := I
  unfold wpX_term wpY_term
  rcases sf_ixc v1 hc with hb | ⟨x, hx, rfl⟩
  · exact sf_xI_f hb (br_t rfl (sf_yB_f hb (br_f sf_10 ⟨rfl, J⟩)))
  · obtain ⟨HXx, HYx, Bx, Sx⟩ := G x hx
    obtain ⟨r, h1, h2⟩ := sf_term (fc := nI c) (fd := nI c) (q := v2) P (by omega) HXx HYx Bx Sx 343 (Nat.le_refl _) 0
    rw [sf_rk_343] at h2
    exact sf_xI_t hc hx (br_f sf_10 ⟨344, h1 _ (sf_yB_t hc hx (br_t rfl ⟨85, h2 _ ⟨rfl, J⟩⟩))⟩)
theorem i_vc_value {k : Nat} {u : SX} {v : SY} (I : i_Rel k u v) (hk : k + 5 ≤ 2560) (v1 : Int32) (v2 : Int32) (v3 : Int32) (v4 : Int32) : wpX_value (fun r => wpY_value (fun r' => r' = r ∧ i_Rel (k + 5) u v) v v1 v2 v3 v4) u v1 v2 v3 v4 := by
  have J := i_up I
  obtain ⟨c, p, a, pl, tr, b, hc, rfl, rfl, P, G⟩ := I
  unfold wpX_value wpY_value
  rcases sf_ixc v1 hc with hb | ⟨x, hx, rfl⟩
  · exact sf_xI_f hb (br_t rfl (sf_yB_f hb (br_f sf_10 ⟨rfl, J⟩)))
  · obtain ⟨HXx, HYx, Bx, Sx⟩ := G x hx
    obtain ⟨w2, hw2, _, hX2, hY2⟩ := sf_red v2
    obtain ⟨w3, hw3, _, hX3, hY3⟩ := sf_red v3
    obtain ⟨w4, hw4, _, hX4, hY4⟩ := sf_red v4
    refine sf_xI_t hc hx (br_f sf_10 (hX2 _ (hX3 _ (hX4 _ (sf_xL (by omega) hw2 hw3 hw4 HXx Bx ?_)))))
    exact sf_yB_t hc hx (br_t rfl (hY2 _ _ _ _ _ (hY3 _ _ _ _ _ (hY4 _ _ _ _ _ (sf_yL P (by omega) hw2 hw3 hw4 HYx Bx Sx ⟨rfl, J⟩)))))
theorem i_vc_kinds {k : Nat} {u : SX} {v : SY} (I : i_Rel k u v) (hk : k + 5 ≤ 2560) : wpX_kinds (fun r => wpY_kinds (fun r' => r' = r ∧ i_Rel (k + 5) u v) v) u := by
  have J := i_up I
  obtain ⟨c, p, a, pl, tr, b, hc, rfl, rfl, P, G⟩ := I
  unfold wpX_kinds wpY_kinds
  obtain ⟨r, h1, h2⟩ := sf_kd (pl := pl) (tr := tr) hc G c 0 (Nat.zero_add c) 0
  exact ⟨c + 1, h1 _ ⟨c + 1, h2 _ ⟨rfl, J⟩⟩⟩
