theorem oc_xfi14 {post : Int32 → Prop} {v k x n : Nat} {p m : Nat → Int32} (hv : v < 48) (hk : k < n) (hx : x < 192) (hn : n ≤ 40) (ok : oc_ok p n) (h1 : oc_in (oc_c v p) x k = false → post 1) (h0 : oc_in (oc_c v p) x k = true → post 0) : ∀ d i : Nat, i + d = k → oc_in (oc_c v p) x i = false → wX_isFirstInCell_14 post (nI v) (nI k) (nI x) (nI n) p m (d + 1) (nI i) := by
  intro d
  induction d with
  | zero =>
    intro i hi hf
    have e : i = k := by omega
    subst e
    exact br_t (nI_le (Nat.le_refl _) (by omega)) (h1 hf)
  | succ d ih =>
    intro i hi hf
    have hc := oc_ok_c v ok i (by omega)
    refine br_f (nI_ge (by omega) (by omega)) ⟨vp_in_nI (by omega) (by omega), ?_⟩
    rw [nI_clamp (by omega)]
    refine oc_xcl hv ok (show i < n by omega) ?_
    refine pk_eq (oc_c v p i) x (fun e => h0 (oc_in_t.mpr ⟨i, by omega, e⟩)) (fun e => nm_r (nI_1 i) (ih (i + 1) (by omega) ?_))
    rw [oc_in, hf, beq_false_of_ne e]
    rfl
theorem oc_xfi {post : Int32 → Prop} {v k n : Nat} {p m : Nat → Int32} (hv : v < 48) (hk : k < n) (hn : n ≤ 40) (ok : oc_ok p n) (h1 : oc_in (oc_c v p) (oc_c v p k) k = false → post 1) (h0 : oc_in (oc_c v p) (oc_c v p k) k = true → post 0) : wpX_isFirstInCell post (nI n, p, m) (nI v) (nI k) := by
  unfold wpX_isFirstInCell
  dsimp only
  rw [nI_clamp (by omega)]
  refine ⟨vp_in_nI (by omega) (by decide), ?_⟩
  refine oc_xcl hv ok hk ?_
  exact ⟨k + 1, oc_xfi14 hv hk (oc_ok_c v ok k hk) hn ok h1 h0 k 0 (by omega) rfl⟩
theorem oc_xfc4 {post : Int32 → Prop} {v n : Nat} {p m : Nat → Int32} (hv : v < 48) (hn : n ≤ 40) (ok : oc_ok p n) (h : post (nI (oc_fc (oc_c v p) oc_tt n))) : ∀ d i : Nat, i + d = n → wX_fullCells_4 post (nI v) (nI n) p m (d + 1) (nI (oc_fc (oc_c v p) oc_tt i)) (nI i) := by
  intro d
  induction d with
  | zero =>
    intro i hi
    have e : i = n := by omega
    subst e
    exact br_t (nI_le (Nat.le_refl _) (by omega)) h
  | succ d ih =>
    intro i hi
    have ih' := ih (i + 1) (by omega)
    rw [oc_fc] at ih'
    refine br_f (nI_ge (by omega) (by omega)) ?_
    refine oc_xfi hv (by omega) hn ok (fun hf => ?_) (fun hf => ?_)
    · refine br_f (by decide) (nm_r (nI_1 _) (nm_r (nI_1 i) ?_))
      rw [if_pos ⟨hf, rfl⟩] at ih'
      exact ih'
    · refine br_t rfl (nm_r (nI_1 i) ?_)
      have z : ¬ (oc_in (oc_c v p) (oc_c v p i) i = false ∧ oc_tt (oc_c v p i) = true) := fun z => by
        rw [hf] at z
        exact absurd z.1 (by decide)
      rw [if_neg z] at ih'
      exact ih'
theorem oc_xfull {post : Int32 → Prop} {v n : Nat} {p m : Nat → Int32} (hv : v < 48) (hn : n ≤ 40) (ok : oc_ok p n) (h : post (nI (oc_fc (oc_c v p) oc_tt n))) : wpX_fullCells post (nI n, p, m) (nI v) := by
  show ∃ n4 : Nat, wX_fullCells_4 post (nI v) (nI n) p m n4 0 0
  exact ⟨n + 1, oc_xfc4 hv hn ok h n 0 (by omega)⟩
theorem oc_yfull19 {post : Int32 → Prop} {v n : Nat} {p m : Nat → Int32} (hv : v < 48) (hn : n ≤ 40) (ok : oc_ok p n) : ∀ (d b k : Nat) (a : Int32), b ≤ 192 → 192 - b ≤ d → k ≤ b → oc_af a b → post (nI (k + oc_D (oc_e (oc_c v p) oc_tt n) (192 - b) b)) → wY_full_19 post (nI v) (nI n) p m (d + 1) (nI k) (oc_nx (oc_c v p) a n) := by
  intro d
  induction d with
  | zero =>
    intro b k a hb hd hk ha h
    rcases oc_nx_b (oc_ok_c v ok) ha with ⟨e, hno⟩ | ⟨q, hq, hbq, e, hin, hno⟩
    · rw [e]
      have z : oc_D (oc_e (oc_c v p) oc_tt n) (192 - b) b = 0 := oc_D_0 (fun w h1 h2 => by
        unfold oc_e
        rw [hno w h1 (by omega)]
        rfl)
      rw [z] at h
      exact br_t (by decide) h
    · omega
  | succ d ih =>
    intro b k a hb hd hk ha h
    rcases oc_nx_b (oc_ok_c v ok) ha with ⟨e, hno⟩ | ⟨q, hq, hbq, e, hin, hno⟩
    · rw [e]
      have z : oc_D (oc_e (oc_c v p) oc_tt n) (192 - b) b = 0 := oc_D_0 (fun w h1 h2 => by
        unfold oc_e
        rw [hno w h1 (by omega)]
        rfl)
      rw [z] at h
      exact br_t (by decide) h
    · rw [e]
      have z := oc_D_step (e := oc_e (oc_c v p) oc_tt n) hbq hq (fun w h1 h2 => by
        unfold oc_e
        rw [hno w h1 h2]
        rfl)
      have t : oc_e (oc_c v p) oc_tt n q = true := by
        unfold oc_e
        rw [hin]
        rfl
      rw [z, if_pos t, ← Nat.add_assoc] at h
      refine br_f (nI_pos (by omega)) (br_f (nI_ge (b := 192) (by omega) (by decide)) (nm_r (nI_1 k) ?_))
      refine oc_ynext hv hn ok ?_
      exact ih (q + 1) (k + 1) (nI q) (by omega) (by omega) (by omega) (oc_af_s hq) h
theorem oc_yfull {post : Int32 → Prop} {v n : Nat} {p m : Nat → Int32} (hv : v < 48) (hn : n ≤ 40) (ok : oc_ok p n) (h : post (nI (oc_fc (oc_c v p) oc_tt n))) : wpY_full post (nI n, p, m) (nI v) := by
  unfold wpY_full
  dsimp only
  rw [oc_fc_D n (oc_ok_c v ok)] at h
  refine oc_yV1 hv ?_
  refine br_t rfl ?_
  refine oc_ynext hv hn ok ?_
  refine ⟨193, oc_yfull19 hv hn ok 192 0 0 (-1) (by omega) (by omega) (by omega) oc_af_0 ?_⟩
  rw [Nat.zero_add]
  exact h
def oc_th (c : Nat → Nat) (m : Nat → Int32) (n : Nat) (b : Int32) (q : Nat) : Bool := decide (b ≤ oc_sm c m q n)
theorem oc_xhv14 {post : Int32 → Prop} {v n : Nat} {b : Int32} {p m : Nat → Int32} (hv : v < 48) (hn : n ≤ 40) (ok : oc_ok p n) (h : post (nI (oc_fc (oc_c v p) (oc_th (oc_c v p) m n b) n))) : ∀ d i : Nat, i + d = n → wX_having_14 post (nI v) b (nI n) p m (d + 1) (nI (oc_fc (oc_c v p) (oc_th (oc_c v p) m n b) i)) (nI i) := by
  intro d
  induction d with
  | zero =>
    intro i hi
    have e : i = n := by omega
    subst e
    exact br_t (nI_le (Nat.le_refl _) (by omega)) h
  | succ d ih =>
    intro i hi
    have hc := oc_ok_c v ok i (by omega)
    have ih' := ih (i + 1) (by omega)
    rw [oc_fc] at ih'
    refine br_f (nI_ge (by omega) (by omega)) ⟨vp_in_nI (by omega) (by omega), ?_⟩
    rw [nI_clamp (by omega)]
    refine oc_xcl hv ok (show i < n by omega) ?_
    refine oc_xfi hv (by omega) hn ok (fun hf => ?_) (fun hf => ?_)
    · refine br_f (by decide) ?_
      refine oc_xtot hv hc hn ok ?_
      refine br_c (fun hb => nm_r (nI_1 i) ?_) (fun hb => nm_r (nI_1 _) (nm_r (nI_1 i) ?_))
      · have z : ¬ (oc_in (oc_c v p) (oc_c v p i) i = false ∧ oc_th (oc_c v p) m n b (oc_c v p i) = true) := fun z => absurd hb (Int32.not_lt.mpr (of_decide_eq_true z.2))
        rw [if_neg z] at ih'
        exact ih'
      · have z : oc_th (oc_c v p) m n b (oc_c v p i) = true := decide_eq_true (Int32.not_lt.mp hb)
        rw [if_pos ⟨hf, z⟩] at ih'
        exact ih'
    · refine br_t rfl (nm_r (nI_1 i) ?_)
      have z : ¬ (oc_in (oc_c v p) (oc_c v p i) i = false ∧ oc_th (oc_c v p) m n b (oc_c v p i) = true) := fun z => by
        rw [hf] at z
        exact absurd z.1 (by decide)
      rw [if_neg z] at ih'
      exact ih'
theorem oc_yhv43 {post : Int32 → Prop} {J : Int32 → Int32 → Prop} {v n q : Nat} {b x : Int32} {p m : Nat → Int32} (hv : v < 48) (hn : n ≤ 40) (ok : oc_ok p n) (h : J x (oc_nx (oc_c v p) (nI q) n)) : wY_having_43 post J (nI v) b x (nI q) (nI n) p m := by
  unfold wY_having_43
  exact oc_ynext hv hn ok h
theorem oc_yhv20 {post : Int32 → Prop} {v n : Nat} {y : Int32} {p m : Nat → Int32} (hv : v < 48) (hn : n ≤ 40) (ok : oc_ok p n) : ∀ (d b k : Nat) (a : Int32), b ≤ 192 → 192 - b ≤ d → oc_af a b → post (nI (k + oc_D (oc_e (oc_c v p) (oc_th (oc_c v p) m n y) n) (192 - b) b)) → wY_having_20 post (nI v) y (nI n) p m (d + 1) (nI k) (oc_nx (oc_c v p) a n) := by
  intro d
  induction d with
  | zero =>
    intro b k a hb hd ha h
    rcases oc_nx_b (oc_ok_c v ok) ha with ⟨e, hno⟩ | ⟨q, hq, hbq, e, hin, hno⟩
    · rw [e]
      have z : oc_D (oc_e (oc_c v p) (oc_th (oc_c v p) m n y) n) (192 - b) b = 0 := oc_D_0 (fun w h1 h2 => by
        unfold oc_e
        rw [hno w h1 (by omega)]
        rfl)
      rw [z] at h
      exact br_t (by decide) h
    · omega
  | succ d ih =>
    intro b k a hb hd ha h
    rcases oc_nx_b (oc_ok_c v ok) ha with ⟨e, hno⟩ | ⟨q, hq, hbq, e, hin, hno⟩
    · rw [e]
      have z : oc_D (oc_e (oc_c v p) (oc_th (oc_c v p) m n y) n) (192 - b) b = 0 := oc_D_0 (fun w h1 h2 => by
        unfold oc_e
        rw [hno w h1 (by omega)]
        rfl)
      rw [z] at h
      exact br_t (by decide) h
    · rw [e]
      have z := oc_D_step (e := oc_e (oc_c v p) (oc_th (oc_c v p) m n y) n) hbq hq (fun w h1 h2 => by
        unfold oc_e
        rw [hno w h1 h2]
        rfl)
      refine br_f (nI_pos (by omega)) ?_
      refine oc_ysum hv hq hn ok ?_
      refine br_c (fun g => ?_) (fun g => nm_r (nI_1 k) ?_)
      · have t : ¬ oc_e (oc_c v p) (oc_th (oc_c v p) m n y) n q = true := by
          unfold oc_e
          rw [hin, Bool.true_and]
          exact fun t => absurd g (Int32.not_lt.mpr (of_decide_eq_true t))
        rw [z, if_neg t, Nat.zero_add] at h
        refine oc_yhv43 hv hn ok ?_
        exact ih (q + 1) k (nI q) (by omega) (by omega) (oc_af_s hq) h
      · have t : oc_e (oc_c v p) (oc_th (oc_c v p) m n y) n q = true := by
          unfold oc_e
          rw [hin, Bool.true_and]
          exact decide_eq_true (Int32.not_lt.mp g)
        rw [z, if_pos t, ← Nat.add_assoc] at h
        refine oc_yhv43 hv hn ok ?_
        exact ih (q + 1) (k + 1) (nI q) (by omega) (by omega) (oc_af_s hq) h
