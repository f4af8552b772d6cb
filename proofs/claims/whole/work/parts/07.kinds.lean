theorem sf_xJ {post : Int32 → Prop} {fc : Int32} {a : Nat → Int32} {x : Nat} {p : Nat → Nat → Nat} (hx : x < 18) (G : ∀ s, s ≤ x → sf_HX a s (p s) ∧ sf_B (p s))
    (hyes : (∃ y, y < x ∧ ∀ t, t < 343 → p y t = p x t) → post 1) (hno : (¬ ∃ y, y < x ∧ ∀ t, t < 343 → p y t = p x t) → post 0) : wpX_hasEarlierEqual post (fc, a) (nI x) := by
  refine loop_0 (fun n i (_ : Unit) => wX_hasEarlierEqual_2 post (nI x) fc a n (nI i)) (fun i _ => ¬ ∃ y, y < i ∧ ∀ t, t < 343 → p y t = p x t) x () (fun ⟨y, hy, _⟩ => absurd hy (Nat.not_lt_zero y)) ?_ ?_
  · intro n _ I
    exact br_t (nI_le (Nat.le_refl _) (by omega)) (hno I)
  · intro n i _ hi I hk
    have g1 := G i (by omega)
    have g2 := G x (Nat.le_refl _)
    refine br_f (nI_ge hi (by omega)) (sf_xR (by omega) hx g1.1 g2.1 g1.2 g2.2 (fun e => ?_) (fun e => ?_))
    · exact br_f sf_10 (hyes ⟨i, hi, e⟩)
    · refine br_t rfl (nm_r (nI_1 i) (hk () (fun ⟨y, hy, q⟩ => ?_)))
      by_cases yi : y = i
      · subst yi
        exact e q
      · exact I ⟨y, by omega, q⟩
theorem sf_yJ {post : Int32 → Prop} {J : Int32 → Int32 → Prop} {fc q : Int32} {pl tr b : Nat → Int32} {x : Nat} {p : Nat → Nat → Nat} (hx : x < 16) (G : ∀ s, s ≤ x → sf_HY b s (p s) ∧ sf_B (p s) ∧ sf_Sup 6 (p s))
    (hyes : (∃ y, y < x ∧ ∀ t, t < 343 → p y t = p x t) → J q (nI (x + 1))) (hno : (¬ ∃ y, y < x ∧ ∀ t, t < 343 → p y t = p x t) → J (q + 1) (nI (x + 1))) : ∃ n, wY_kinds_23 post J q (nI x) fc pl tr b n 1 0 := by
  refine loop_0 (fun n i (f : Int32) => wY_kinds_23 post J q (nI x) fc pl tr b n f (nI i)) (fun i f => (f = 1 ∧ ¬ ∃ y, y < i ∧ ∀ t, t < 343 → p y t = p x t) ∨ (f = 0 ∧ ∃ y, y < i ∧ ∀ t, t < 343 → p y t = p x t)) x 1 (Or.inl ⟨rfl, fun ⟨y, hy, _⟩ => absurd hy (Nat.not_lt_zero y)⟩) ?_ ?_
  · intro n f I
    refine br_t (nI_le (Nat.le_refl _) (by omega)) ?_
    rcases I with ⟨rfl, I⟩ | ⟨rfl, I⟩
    · exact br_f sf_10 (nm_e (nm_r (nI_1 x) (hno I)))
    · exact br_t rfl (nm_r (nI_1 x) (hyes I))
  · intro n i f hi I hk
    have g1 := G i (by omega)
    have g2 := G x (Nat.le_refl _)
    refine br_f (nI_ge hi (by omega)) (sf_yR (by omega) (by omega) g2.1 g1.1 g2.2.1 g1.2.1 g2.2.2 g1.2.2 (fun e => ?_) (fun e => ?_))
    · exact br_f sf_10 (nm_r (nI_1 i) (hk 0 (Or.inr ⟨rfl, i, by omega, fun t ht => (e t ht).symm⟩)))
    · refine br_t rfl (nm_r (nI_1 i) (hk f ?_))
      rcases I with ⟨ef, I⟩ | ⟨ef, y, hy, I⟩
      · refine Or.inl ⟨ef, fun ⟨y, hy, q⟩ => ?_⟩
        by_cases yi : y = i
        · subst yi
          exact e (fun t ht => (q t ht).symm)
        · exact I ⟨y, by omega, q⟩
      · exact Or.inr ⟨ef, y, by omega, I⟩
theorem sf_kd {c : Nat} {a pl tr b : Nat → Int32} {p : Nat → Nat → Nat} (hc : c ≤ 16) (G : ∀ s, s < c → sf_HX a s (p s) ∧ sf_HY b s (p s) ∧ sf_B (p s) ∧ sf_Sup 6 (p s)) :
    ∀ d x, x + d = c → ∀ q : Int32, ∃ r : Int32, (∀ post : Int32 → Prop, post r → wX_kinds_4 post (nI c) a (d + 1) q (nI x)) ∧ ∀ post : Int32 → Prop, post r → wY_kinds_4 post (nI c) pl tr b (d + 1) q (nI x) := by
  intro d
  induction d with
  | zero =>
    intro x hx q
    have h : nI c ≤ nI x := nI_le (by omega) (by omega)
    exact ⟨q, fun _ hp => br_t h hp, fun _ hp => br_t h hp⟩
  | succ d ih =>
    intro x hx q
    have h : ¬ nI c ≤ nI x := nI_ge (by omega) (by omega)
    have h16 : ¬ (16 : Int32) ≤ nI x := nI_ge (a := x) (b := 16) (by omega) (by decide)
    have GX : ∀ s, s ≤ x → sf_HX a s (p s) ∧ sf_B (p s) := fun s hs => ⟨(G s (by omega)).1, (G s (by omega)).2.2.1⟩
    have GY : ∀ s, s ≤ x → sf_HY b s (p s) ∧ sf_B (p s) ∧ sf_Sup 6 (p s) := fun s hs => (G s (by omega)).2
    by_cases E : ∃ y, y < x ∧ ∀ t, t < 343 → p y t = p x t
    · obtain ⟨r, h1, h2⟩ := ih (x + 1) (by omega) q
      exact ⟨r, fun post hp => br_f h (sf_xJ (by omega) GX (fun _ => br_f sf_10 (nm_r (nI_1 x) (h1 post hp))) (fun n => absurd E n)), fun post hp => br_f h (br_f h16 (sf_yJ (by omega) GY (fun _ => h2 post hp) (fun n => absurd E n)))⟩
    · obtain ⟨r, h1, h2⟩ := ih (x + 1) (by omega) (q + 1)
      exact ⟨r, fun post hp => br_f h (sf_xJ (by omega) GX (fun n => absurd n E) (fun _ => br_t rfl (nm_e (nm_r (nI_1 x) (h1 post hp))))), fun post hp => br_f h (br_f h16 (sf_yJ (by omega) GY (fun n => absurd n E) (fun _ => h2 post hp)))⟩
/-! Y's tables -/
theorem sf_yIn {post : SY → Prop} (h : ∀ pl tr, sf_PL pl tr → post (0, pl, tr, fun _ => 0)) : wpY_init post := by
  unfold wpY_init
  refine loop_0 (fun n i (s : Int32 × (Nat → Int32) × (Nat → Int32)) => wY_init_34 post 0 n s.1 (nI i) s.2.1 s.2.2 (fun _ => 0))
    (fun i s => s.1 = nI (sf_rk i) ∧ (∀ t, t < i → s.2.1 t = if sf_sz t ≤ 6 then nI (sf_rk t) else -1) ∧ ∀ k, k < sf_rk i → s.2.2 k = nI (sf_tri k)) 343 (0, (fun _ => 0), fun _ => 0) ⟨nI_0.symm, fun t ht => absurd ht (Nat.not_lt_zero t), fun t ht => absurd ht (Nat.not_lt_zero t)⟩ ?_ ?_
  · intro n s I
    refine br_t sf_le343 (h s.2.1 s.2.2 ⟨I.2.1, fun i hi => I.2.2 i ?_⟩)
    rw [sf_rk_343]
    exact hi
  · intro n i s hi I hk
    obtain ⟨x, pl, tr⟩ := s
    obtain ⟨I1, I2, I3⟩ := I
    dsimp only at I1 I2 I3
    subst I1
    have hin : vp_in (nI i) 343 := vp_in_nI hi (by decide)
    have hcl : (nI i).toNatClampNeg = i := nI_clamp (by omega)
    have hz := sf_sz_le i hi
    refine br_f (sf_nle343 hi) ⟨hin, nm_r (sf_upd_at hcl rfl) (sf_yD hi rfl ?_)⟩
    refine pk_lt 6 (sf_sz i) (fun z => ?_) (fun z => ?_) rfl rfl (by omega) (by omega)
    · have er : sf_rk (i + 1) = sf_rk i := if_neg (by omega)
      refine nm_r (nI_1 i) (hk (nI (sf_rk i), upd pl i (-1), tr) ⟨by rw [er], fun t ht => ?_, fun k hk' => I3 k (by rw [er] at hk'; exact hk')⟩)
      by_cases e : t = i
      · subst e
        rw [if_neg (by omega)]
        exact pk_us
      · show upd pl i (-1) t = _
        rw [pk_un e]
        exact I2 t (by omega)
    · have hr := sf_rk_ok i hi z
      have er : sf_rk (i + 1) = sf_rk i + 1 := if_pos z
      have hcr : (nI (sf_rk i)).toNatClampNeg = sf_rk i := nI_clamp (by omega)
      refine pk_le 84 (sf_rk i) (fun w => absurd w (by omega)) (fun _ => ?_) rfl rfl (by omega) (by omega)
      refine ⟨hin, nm_r (sf_upd_at hcl rfl) ⟨sf_in84 hr.1, nm_r (sf_upd_at hcr rfl) (nm_r (nI_1 _) (nm_r (nI_1 i) (hk (nI (sf_rk i + 1), upd (upd pl i (-1)) i (nI (sf_rk i)), upd tr (sf_rk i) (nI i)) ⟨by rw [er], fun t ht => ?_, fun k hk' => ?_⟩)))⟩⟩
      · by_cases e : t = i
        · subst e
          rw [if_pos z]
          exact pk_us
        · show upd (upd pl i (-1)) i (nI (sf_rk i)) t = _
          rw [pk_un e, pk_un e]
          exact I2 t (by omega)
      · by_cases e : k = sf_rk i
        · subst e
          rw [hr.2]
          exact pk_us
        · show upd tr (sf_rk i) (nI i) k = _
          rw [pk_un e]
          exact I3 k (by rw [er] at hk'; omega)
