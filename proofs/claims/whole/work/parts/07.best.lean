theorem oc_bp_c {F F' : Nat → Prop} {S : Nat → Int32} {f s : Int32} (hF : ∀ q, F q ↔ F' q) (h : oc_bp F S f s) : oc_bp F' S f s := by
  have e : F = F' := funext fun q => propext (hF q)
  rw [← e]
  exact h
theorem oc_xbest17 {post : Int32 → Prop} {v n : Nat} {p m : Nat → Int32} (hv : v < 48) (hn : n ≤ 40) (ok : oc_ok p n) (h : ∀ f s : Int32, oc_bp (fun q => oc_in (oc_c v p) q n = true) (fun q => oc_sm (oc_c v p) m q n) f s → post f) : ∀ (d i : Nat) (f s : Int32), i + d = n → oc_bp (fun q => oc_in (oc_c v p) q i = true) (fun q => oc_sm (oc_c v p) m q n) f s → wX_best_17 post (nI v) (nI n) p m (d + 1) f s (nI i) := by
  intro d
  induction d with
  | zero =>
    intro i f s hi hb
    have e : i = n := by omega
    subst e
    exact br_t (nI_le (Nat.le_refl _) (by omega)) (h f s hb)
  | succ d ih =>
    intro i f s hi hb
    have hc := oc_ok_c v ok i (by omega)
    have hF : ∀ q, oc_in (oc_c v p) q (i + 1) = true ↔ (oc_in (oc_c v p) q i = true ∨ q = oc_c v p i) := fun q => by
      rw [oc_in, Bool.or_eq_true, beq_iff_eq]
      exact ⟨fun z => z.elim Or.inl (fun w => Or.inr w.symm), fun z => z.elim Or.inl (fun w => Or.inr w.symm)⟩
    have it : (f < 0 ∨ s < oc_sm (oc_c v p) m (oc_c v p i) n ∨ (oc_sm (oc_c v p) m (oc_c v p i) n = s ∧ nI (oc_c v p i) < f)) → wX_best_17 post (nI v) (nI n) p m (d + 1) (nI (oc_c v p i)) (oc_sm (oc_c v p) m (oc_c v p i) n) (nI (i + 1)) := fun z => ih (i + 1) _ _ (by omega) (oc_bp_t hb hc hF z)
    have ie : ¬ (f < 0 ∨ s < oc_sm (oc_c v p) m (oc_c v p i) n ∨ (oc_sm (oc_c v p) m (oc_c v p i) n = s ∧ nI (oc_c v p i) < f)) → wX_best_17 post (nI v) (nI n) p m (d + 1) f s (nI (i + 1)) := fun z => ih (i + 1) _ _ (by omega) (oc_bp_n hb hc hF z)
    refine br_f (nI_ge (by omega) (by omega)) ⟨vp_in_nI (by omega) (by omega), ?_⟩
    rw [nI_clamp (by omega)]
    refine oc_xcl hv ok (show i < n by omega) ?_
    refine oc_xtot hv hc hn ok ?_
    refine br_c (fun h1 => nm_r (nI_1 i) (it (Or.inl h1))) (fun h1 => ?_)
    refine br_c (fun h2 => nm_r (nI_1 i) (it (Or.inr (Or.inl h2)))) (fun h2 => ?_)
    refine br_c (fun h3 => ?_) (fun h3 => nm_r (nI_1 i) (ie ?_))
    · refine br_c (fun h4 => nm_r (nI_1 i) (ie ?_)) (fun h4 => nm_r (nI_1 i) (it (Or.inr (Or.inr ⟨h3, Int32.not_le.mp h4⟩))))
      rintro (z | z | z)
      · exact h1 z
      · exact h2 z
      · exact absurd z.2 (Int32.not_lt.mpr h4)
    · rintro (z | z | z)
      · exact h1 z
      · exact h2 z
      · exact h3 z.1
theorem oc_ybest53 {post : Int32 → Prop} {J : Int32 → Int32 → Int32 → Prop} {v n q : Nat} {f s : Int32} {p m : Nat → Int32} (hv : v < 48) (hn : n ≤ 40) (ok : oc_ok p n) (h : J f s (oc_nx (oc_c v p) (nI q) n)) : wY_best_53 post J (nI v) f s (nI q) (nI n) p m := by
  unfold wY_best_53
  exact oc_ynext hv hn ok h
theorem oc_ybest47 {post : Int32 → Prop} {J : Int32 → Int32 → Int32 → Prop} {v n q : Nat} {s : Int32} {p m : Nat → Int32} (hv : v < 48) (hn : n ≤ 40) (ok : oc_ok p n) (h : J (nI q) s (oc_nx (oc_c v p) (nI q) n)) : wY_best_47 post J (nI v) (nI q) s (nI n) p m := by
  unfold wY_best_47
  exact oc_ybest53 hv hn ok h
theorem oc_ybest23 {post : Int32 → Prop} {v n : Nat} {p m : Nat → Int32} (hv : v < 48) (hn : n ≤ 40) (ok : oc_ok p n) (h : ∀ f s : Int32, oc_bp (fun q => oc_in (oc_c v p) q n = true) (fun q => oc_sm (oc_c v p) m q n) f s → post f) : ∀ (d b : Nat) (a f s : Int32), b ≤ 192 → 192 - b ≤ d → oc_af a b → oc_bp (fun q => oc_in (oc_c v p) q n = true ∧ q < b) (fun q => oc_sm (oc_c v p) m q n) f s → wY_best_23 post (nI v) (nI n) p m (d + 1) f s (oc_nx (oc_c v p) a n) := by
  have hz : ∀ (b : Nat) (f s : Int32), (∀ w, b ≤ w → w < 192 → oc_in (oc_c v p) w n = false) → oc_bp (fun q => oc_in (oc_c v p) q n = true ∧ q < b) (fun q => oc_sm (oc_c v p) m q n) f s → post f := by
    intro b f s hno hb
    refine h f s (oc_bp_c (fun q => ⟨fun z => z.1, fun z => ⟨z, ?_⟩⟩) hb)
    have w : ¬ b ≤ q := fun w => by
      rw [hno q w (oc_in_lt (oc_ok_c v ok) z)] at z
      exact absurd z (by decide)
    omega
  intro d
  induction d with
  | zero =>
    intro b a f s hb hd ha hbp
    rcases oc_nx_b (oc_ok_c v ok) ha with ⟨e, hno⟩ | ⟨q, hq, hbq, e, hin, hno⟩
    · rw [e]
      exact br_t (by decide) (hz b f s hno hbp)
    · omega
  | succ d ih =>
    intro b a f s hb hd ha hbp
    rcases oc_nx_b (oc_ok_c v ok) ha with ⟨e, hno⟩ | ⟨x, hx, hbx, e, hin, hno⟩
    · rw [e]
      exact br_t (by decide) (hz b f s hno hbp)
    · rw [e]
      have hF : ∀ q, (oc_in (oc_c v p) q n = true ∧ q < x + 1) ↔ ((oc_in (oc_c v p) q n = true ∧ q < b) ∨ q = x) := fun q => by
        constructor
        · rintro ⟨z1, z2⟩
          by_cases w : q = x
          · exact Or.inr w
          · by_cases w2 : q < b
            · exact Or.inl ⟨z1, w2⟩
            · rw [hno q (by omega) (by omega)] at z1
              exact absurd z1 (by decide)
        · rintro (⟨z1, z2⟩ | z)
          · exact ⟨z1, by omega⟩
          · rw [z]
            exact ⟨hin, by omega⟩
      have it : (f < 0 ∨ s < oc_sm (oc_c v p) m x n ∨ (oc_sm (oc_c v p) m x n = s ∧ nI x < f)) → wY_best_23 post (nI v) (nI n) p m (d + 1) (nI x) (oc_sm (oc_c v p) m x n) (oc_nx (oc_c v p) (nI x) n) := fun z => ih (x + 1) (nI x) _ _ (by omega) (by omega) (oc_af_s hx) (oc_bp_t hbp hx hF z)
      have ie : ¬ (f < 0 ∨ s < oc_sm (oc_c v p) m x n ∨ (oc_sm (oc_c v p) m x n = s ∧ nI x < f)) → wY_best_23 post (nI v) (nI n) p m (d + 1) f s (oc_nx (oc_c v p) (nI x) n) := fun z => ih (x + 1) (nI x) _ _ (by omega) (by omega) (oc_af_s hx) (oc_bp_n hbp hx hF z)
      refine br_f (nI_pos (by omega)) ?_
      refine oc_ysum hv hx hn ok ?_
      refine br_c (fun h1 => ?_) (fun h1 => br_c (fun h2 => ?_) (fun h2 => ?_))
      · refine oc_ybest47 hv hn ok ?_
        exact it (Or.inl h1)
      · refine oc_ybest53 hv hn ok ?_
        refine ie ?_
        rintro (z | z | z)
        · exact h1 z
        · exact absurd z (Int32.not_lt.mpr h2)
        · rcases hbp with ⟨w, _, _⟩ | ⟨y, hy, w, _, hFy, _⟩
          · rw [w] at h1
            exact h1 (by decide)
          · have z2 := z.2
            rw [w, nI_ltI (by omega) (by omega)] at z2
            have z3 : y < b := hFy.2
            omega
      · refine oc_ybest47 hv hn ok ?_
        exact it (Or.inr (Or.inl (Int32.not_le.mp h2)))
def oc_vw (p : Nat → Int32) (n : Nat) (x : Int32) : Nat → Int32
  | 0 => 0
  | v + 1 => if nI (oc_fc (oc_c v p) oc_tt n) = x then oc_vw p n x v + 1 else oc_vw p n x v
theorem oc_xvw {post : Int32 → Prop} {n : Nat} {x : Int32} {p m : Nat → Int32} (hn : n ≤ 40) (ok : oc_ok p n) (h : post (oc_vw p n x 48)) : ∀ d i : Nat, i + d = 48 → wX_viewsWith_17 post x (nI n) p m (d + 1) (oc_vw p n x i) (nI i) := by
  intro d
  induction d with
  | zero =>
    intro i hi
    have e : i = 48 := by omega
    subst e
    exact br_t (nI_le (a := 48) (b := 48) (by decide) (by decide)) h
  | succ d ih =>
    intro i hi
    have ih' := ih (i + 1) (by omega)
    rw [oc_vw] at ih'
    refine br_f (nI_ge (b := 48) (by omega) (by decide)) ?_
    refine oc_xfull (show i < 48 by omega) hn ok ?_
    refine br_c (fun e => nm_e (nm_r (nI_1 i) ?_)) (fun e => nm_r (nI_1 i) ?_)
    · rw [if_pos e] at ih'
      exact ih'
    · rw [if_neg e] at ih'
      exact ih'
theorem oc_yvw {post : Int32 → Prop} {n : Nat} {x : Int32} {p m : Nat → Int32} (hn : n ≤ 40) (ok : oc_ok p n) (h : post (oc_vw p n x 48)) : ∀ d i : Nat, i + d = 48 → wY_viewsWith_17 post x (nI n) p m (d + 1) (oc_vw p n x i) (nI i) := by
  intro d
  induction d with
  | zero =>
    intro i hi
    have e : i = 48 := by omega
    subst e
    exact br_t (nI_le (a := 48) (b := 48) (by decide) (by decide)) h
  | succ d ih =>
    intro i hi
    have ih' := ih (i + 1) (by omega)
    rw [oc_vw] at ih'
    refine br_f (nI_ge (b := 48) (by omega) (by decide)) ?_
    refine oc_yfull (show i < 48 by omega) hn ok ?_
    refine br_c (fun e => nm_e (nm_r (nI_1 i) ?_)) (fun e => nm_r (nI_1 i) ?_)
    · rw [if_pos e] at ih'
      exact ih'
    · rw [if_neg e] at ih'
      exact ih'
