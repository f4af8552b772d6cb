theorem sf_y141 {post : Int32 → SY → Prop} {pl tr a : Nat → Int32} {c x y s d : Nat} {f g : Nat → Nat} (P : sf_PL pl tr) (hc : c < 16) (hx : x < 16) (hy : y < 16) (hs : s < 3) (Hf : sf_HY a x f) (Hg : sf_HY a y g) (Bf : sf_B f) (Bg : sf_B g) (Sf : sf_Sup 6 f) (Sg : sf_Sup d g)
    (hok : ∀ t, t < 343 → f t ≠ 0 → sf_sz t - sf_ex s t + sf_ex s t * d ≤ 6) (H18 : sf_HY a 18 (fun _ => 0))
    (h : ∀ a', sf_HY a' c (sf_sb f g s) → (∀ s, s < 16 → s ≠ c → ∀ t, t < 84 → a' (84 * s + t) = a (84 * s + t)) → post (nI c) (nI (c + 1), pl, tr, a')) :
    ∃ n, wY_substitute_141 post (nI x) (nI s) (nI y) n 0 (nI c) pl tr a := by
  refine loop_0 (fun n i (b : Nat → Int32) => wY_substitute_141 post (nI x) (nI s) (nI y) n (nI i) (nI c) pl tr b) (fun i b => sf_HY b 18 (fun m => sf_sum i (fun j => sf_T f g s (sf_tri j) m) % 10007) ∧ sf_KY a b) 84 a ⟨H18, sf_KY_r⟩ ?_ ?_
  · intro n b I
    refine br_t sf_le84 (sf_yC (s := 18) (z := 16) (by decide) (by decide) (by decide) I.1 (fun b1 H1 F1 => sf_yK hc (sf_HY_c H1 (g := sf_sb f g s) (fun t _ => sf_sb_y Sf t)) (fun b2 H2 F2 => h b2 H2 (fun s h1 h2 t ht => ?_))))
    rw [F2 s h2 t ht, F1 s (by omega) t ht, I.2 s h1 t ht]
  · intro n i b hi I hk
    have oi := sf_tri_ok i hi
    have he := sf_ex_ok s hs _ oi.1
    have hf := sf_tB Bf hi
    have ea := sf_rdY (sf_HY_k Hf I.2 hx) (by omega) hi
    refine br_f (sf_nle84 hi) ⟨sf_inY (by omega) hi, ?_⟩
    by_cases z : f (sf_tri i) = 0
    · refine br_t (by rw [ea, z]; rfl) (nm_r (nI_1 i) (hk b ⟨sf_HY_c I.1 (fun m _ => ?_), I.2⟩))
      show _ = (sf_sum i (fun j => sf_T f g s (sf_tri j) m) + sf_T f g s (sf_tri i) m) % 10007
      rw [sf_T_z z, Nat.add_zero]
    · have hlim := hok _ oi.1 z
      have hs0 := sf_ex_sub s hs _ oi.1
      refine br_f (by rw [ea]; exact nI_ne0 (by omega) (by omega)) ⟨sf_in84 hi, sf_yE hs oi.1 (sf_tr P hi) (sf_y0 (s := 16) (by decide) (fun b1 H1 F1 => ?_))⟩
      have et : tr (nI i).toNatClampNeg - nI (sf_ex s (sf_tri i)) * nI (sf_un s) = nI (sf_tri i - sf_ex s (sf_tri i) * sf_un s) := by
        rw [sf_tr P hi, pk_mul, pk_sub he.2.2]
      have K1 : sf_KY a b1 := sf_KY_t I.2 F1 (by decide)
      have hsz : sf_sz (sf_tri i - sf_ex s (sf_tri i) * sf_un s) ≤ 6 := by omega
      have hlt : sf_tri i - sf_ex s (sf_tri i) * sf_un s < 343 := by omega
      have hr := sf_rk_ok _ hlt hsz
      have ep := sf_pl P hlt hsz et
      have hv : vp_in (tr (nI i).toNatClampNeg - nI (sf_ex s (sf_tri i)) * nI (sf_un s)) 343 := by
        rw [et]
        exact vp_in_nI hlt (by decide)
      have hin : vp_in (1344 + pl (tr (nI i).toNatClampNeg - nI (sf_ex s (sf_tri i)) * nI (sf_un s)).toNatClampNeg) 2016 := by
        rw [ep]
        exact sf_in16 hr.1
      have hcl : (1344 + pl (tr (nI i).toNatClampNeg - nI (sf_ex s (sf_tri i)) * nI (sf_un s)).toNatClampNeg).toNatClampNeg = 84 * 16 + sf_rk (sf_tri i - sf_ex s (sf_tri i) * sf_un s) := by
        rw [ep]
        exact sf_cl16 hr.1
      refine ⟨sf_in84 hi, sf_yU hs ⟨hv, sf_inY (by omega) hi, hin, nm_r (sf_upd_at hcl (sf_rdY (sf_HY_k Hf K1 hx) (by omega) hi)) ?_⟩⟩
      have H2 := sf_HY_u (v := f (sf_tri i)) H1 hlt hsz
      have F2 : sf_FY 16 b1 (upd b1 (84 * 16 + sf_rk (sf_tri i - sf_ex s (sf_tri i) * sf_un s)) (nI (f (sf_tri i)))) := sf_FY_u hr.1
      generalize upd b1 (84 * 16 + sf_rk (sf_tri i - sf_ex s (sf_tri i) * sf_un s)) (nI (f (sf_tri i))) = b2 at H2 F2
      refine loop_0 (fun n' k (b' : Nat → Int32) => wY_substitute_228 post (wY_substitute_141 post (nI x) (nI s) (nI y) n) (nI x) (nI s) (nI y) (nI i) (nI (sf_ex s (sf_tri i))) n' (nI k) (nI c) pl tr b')
        (fun k b' => sf_HY b' 16 (sf_sc (f (sf_tri i)) (sf_tri i - sf_ex s (sf_tri i) * sf_un s) (sf_pw g k)) ∧ sf_HY b' 18 (fun m => sf_sum i (fun j => sf_T f g s (sf_tri j) m) % 10007) ∧ sf_KY a b') (sf_ex s (sf_tri i)) b2
        ⟨sf_HY_c H2 (fun m _ => (sf_sc_one hf m).symm), sf_HY_f (sf_HY_f I.1 F1 (by decide)) F2 (by decide), sf_KY_t K1 F2 (by decide)⟩ ?_ ?_
      · intro n' b' J
        refine br_t (nI_le (Nat.le_refl _) (by omega)) (sf_y18 J.1 J.2.1 (sf_sc_B _ _ _) (fun _ _ => sf_mlt _) (fun b3 H3 F3 => nm_r (nI_1 i) (hk b3 ⟨sf_HY_c H3 (fun m _ => ?_), sf_KY_t J.2.2 F3 (by decide)⟩)))
        exact sf_amt _ _
      · intro n' k b' hk1 J hk'
        have h1 : (k + 1) * d ≤ sf_ex s (sf_tri i) * d := Nat.mul_le_mul_right d hk1
        rw [Nat.succ_mul] at h1
        refine br_f (nI_ge hk1 (by omega)) (sf_yT (tg := 17) (x := 16) P (by decide) (by decide) (by omega) (by decide) (by omega) J.1 (sf_HY_k Hg J.2.2 hy) (sf_sc_B _ _ _) Bg (sf_sc_sup (sf_pw_sup Sg k (by omega)) hlt (by omega)) Sg (by omega) (fun b3 H3 F3 => ?_))
        refine sf_yC (s := 17) (z := 16) (by decide) (by decide) (by decide) H3 (fun b4 H4 F4 => nm_r (nI_1 k) (hk' b4 ⟨sf_HY_c H4 (fun m _ => ?_), sf_HY_f (sf_HY_f J.2.1 F3 (by decide)) F4 (by decide), sf_KY_t (sf_KY_t J.2.2 F3 (by decide)) F4 (by decide)⟩))
        exact sf_pm_sc _ _ _ _ _
/-! the relation -/
def sf_Gd (a b : Nat → Int32) (s : Nat) (f : Nat → Nat) : Prop := sf_HX a s f ∧ sf_HY b s f ∧ sf_B f ∧ sf_Sup 6 f
def i_Rel (k : Nat) (u : SX) (v : SY) : Prop := ∃ (c : Nat) (p : Nat → Nat → Nat) (a pl tr b : Nat → Int32), c ≤ 16 ∧ u = (nI c, a) ∧ v = (nI c, pl, tr, b) ∧ sf_PL pl tr ∧ ∀ s, s < c → sf_Gd a b s (p s)
theorem i_up {k : Nat} {u : SX} {v : SY} (h : i_Rel k u v) : i_Rel (k + 5) u v := h
theorem sf_new {k c : Nat} {p : Nat → Nat → Nat} {a a' pl tr b b' : Nat → Int32} {f : Nat → Nat} (hc : c < 16) (P : sf_PL pl tr) (G : ∀ s, s < c → sf_Gd a b s (p s)) (K : ∀ s, s < c → ∀ t, t < 343 → a' (s * 343 + t) = a (s * 343 + t)) (H : sf_HX a' c f)
    (L : ∀ s, s < 16 → s ≠ c → ∀ t, t < 84 → b' (84 * s + t) = b (84 * s + t)) (M : sf_HY b' c f) (B : sf_B f) (S : sf_Sup 6 f) : i_Rel k (nI (c + 1), a') (nI (c + 1), pl, tr, b') := by
  refine ⟨c + 1, fun s => if s = c then f else p s, a', pl, tr, b', hc, rfl, rfl, P, fun s hs => ?_⟩
  by_cases e : s = c
  · subst e
    dsimp only
    rw [if_pos rfl]
    exact ⟨H, M, B, S⟩
  · dsimp only
    rw [if_neg e]
    have g := G s (by omega)
    exact ⟨fun t ht => (K s (by omega) t ht).trans (g.1 t ht), fun t ht => (L s (by omega) e t ht).trans (g.2.1 t ht), g.2.2⟩
theorem sf_KF {c : Nat} {a a' : Nat → Int32} (F : sf_FX c a a') : ∀ s, s < c → ∀ t, t < 343 → a' (s * 343 + t) = a (s * 343 + t) := fun s hs t ht => F s (by omega) t ht
theorem sf_trm_B {t v : Nat} (hv : v < 10007) : sf_B (fun m => if m = t then v else 0) := by
  intro m _
  dsimp only
  split <;> omega
theorem sf_trm_S {t v : Nat} (ht : sf_sz t ≤ 6) : sf_Sup 6 (fun m => if m = t then v else 0) := by
  intro m _ h
  by_cases e : m = t
  · subst e
    exact ht
  · exact absurd (if_neg e) h
theorem sf_c16 {c : Nat} (h : c ≤ 16) : c < 16 ∨ c = 16 := by omega
theorem sf_dd : ∀ h, h < 8 → ∀ e, e < 8 → (sf_I h + sf_I e ≤ 6 ↔ h + e ≤ 8) := by decide +kernel
theorem sf_dn : ∀ h, h < 8 → (sf_I h < 0 ↔ h = 0) := by decide +kernel
theorem sf_dp : ∀ h, h < 8 → ∀ n, n < 7 → (sf_I h * nI n ≤ 6 ↔ n * (h - 1) ≤ 6) := by decide +kernel
theorem sf_okd {f : Nat → Nat} {s h : Nat} (S : sf_Sup 6 f) (H : ∀ t, t < 343 → sf_ok f s h t) : ∀ t, t < 343 → f t ≠ 0 → sf_sz t - sf_ex s t + sf_ex s t * (h - 1) ≤ 6 := by
  intro t ht z
  have h1 := H t ht z
  have h2 := S t ht z
  cases h with
  | zero =>
    rw [Nat.zero_sub, Nat.mul_zero]
    omega
  | succ h =>
    rw [Nat.mul_succ] at h1
    rw [Nat.add_sub_cancel]
    omega
theorem sf_wA {f g : Nat} (hf : f < 10007) (hg : g < 10007) (v : Nat) (hv : v < 10007) (e : (v : Int) = (nI f + 1 * nI g).toInt % 10007) : v = (f + 1 * g) % 10007 := by
  rw [Int32.one_mul, nI_add, nI_toInt (by omega)] at e
  omega
theorem sf_sti {a b : Nat} (ha : a < 2 ^ 30) (hb : b < 2 ^ 30) : (nI a - nI b).toInt = (a : Int) - b := by
  rw [Int32.toInt_sub, nI_toInt (by omega), nI_toInt (by omega)]
  exact Int.bmod_eq_of_le (by omega) (by omega)
theorem sf_wS {f g : Nat} (hf : f < 10007) (hg : g < 10007) (v : Nat) (hv : v < 10007) (e : (v : Int) = (nI f + (-1) * nI g).toInt % 10007) : v = (f + 10006 * g) % 10007 := by
  rw [show nI f + (-1) * nI g = nI f - nI g by grind, sf_sti (by omega) (by omega)] at e
  omega
