def oc_ct (c : Nat → Nat) (x : Nat) : Nat → Int32
  | 0 => 0
  | n + 1 => if c n = x then oc_ct c x n + 1 else oc_ct c x n
def oc_ls (c : Nat → Nat) (m : Nat → Int32) (x : Nat) : Nat → Int32
  | 0 => 10000
  | n + 1 => if c n = x ∧ ¬ oc_ls c m x n ≤ m n then m n else oc_ls c m x n
def oc_ms (c : Nat → Nat) (m : Nat → Int32) (x : Nat) : Nat → Int32
  | 0 => -10000
  | n + 1 => if c n = x ∧ ¬ m n ≤ oc_ms c m x n then m n else oc_ms c m x n
theorem oc_xtot5 {post : Int32 → Prop} {v x n : Nat} {p m : Nat → Int32} (hv : v < 48) (hx : x < 192) (hn : n ≤ 40) (ok : oc_ok p n) (h : post (oc_sm (oc_c v p) m x n)) : ∀ d i : Nat, i + d = n → wX_total_5 post (nI v) (nI x) (nI n) p m (d + 1) (oc_sm (oc_c v p) m x i) (nI i) := by
  intro d
  induction d with
  | zero =>
    intro i hi
    have e : i = n := by omega
    subst e
    exact br_t (nI_le (Nat.le_refl _) (by omega)) h
  | succ d ih =>
    intro i hi
    have hc := oc_ok_c v ok i (by omega)
    have ih' := ih (i + 1) (by omega)
    rw [oc_sm] at ih'
    refine br_f (nI_ge (by omega) (by omega)) ⟨vp_in_nI (by omega) (by omega), ?_⟩
    rw [nI_clamp (by omega)]
    refine oc_xcl hv ok (show i < n by omega) ?_
    refine pk_eq (oc_c v p i) x (fun e => ⟨vp_in_nI (by omega) (by omega), nm_e (nm_r (nI_1 i) ?_)⟩) (fun e => nm_r (nI_1 i) ?_)
    · rw [if_pos e] at ih'
      exact ih'
    · rw [if_neg e] at ih'
      exact ih'
theorem oc_xct {post : Int32 → Prop} {v x n : Nat} {p m : Nat → Int32} (hv : v < 48) (hx : x < 192) (hn : n ≤ 40) (ok : oc_ok p n) (h : post (oc_ct (oc_c v p) x n)) : ∀ d i : Nat, i + d = n → wX_count_24 post (nI v) (nI x) (nI n) p m (d + 1) (oc_ct (oc_c v p) x i) (nI i) := by
  intro d
  induction d with
  | zero =>
    intro i hi
    have e : i = n := by omega
    subst e
    exact br_t (nI_le (Nat.le_refl _) (by omega)) h
  | succ d ih =>
    intro i hi
    have hc := oc_ok_c v ok i (by omega)
    have ih' := ih (i + 1) (by omega)
    rw [oc_ct] at ih'
    refine br_f (nI_ge (by omega) (by omega)) ⟨vp_in_nI (by omega) (by omega), ?_⟩
    rw [nI_clamp (by omega)]
    refine oc_xcl hv ok (show i < n by omega) ?_
    refine pk_eq (oc_c v p i) x (fun e => nm_e (nm_r (nI_1 i) ?_)) (fun e => nm_r (nI_1 i) ?_)
    · rw [if_pos e] at ih'
      exact ih'
    · rw [if_neg e] at ih'
      exact ih'
theorem oc_xls {post : Int32 → Prop} {v x n : Nat} {p m : Nat → Int32} (hv : v < 48) (hx : x < 192) (hn : n ≤ 40) (ok : oc_ok p n) (h : post (oc_ls (oc_c v p) m x n)) : ∀ d i : Nat, i + d = n → wX_least_25 post (nI v) (nI x) (nI n) p m (d + 1) (oc_ls (oc_c v p) m x i) (nI i) := by
  intro d
  induction d with
  | zero =>
    intro i hi
    have e : i = n := by omega
    subst e
    exact br_t (nI_le (Nat.le_refl _) (by omega)) h
  | succ d ih =>
    intro i hi
    have hc := oc_ok_c v ok i (by omega)
    have ih' := ih (i + 1) (by omega)
    rw [oc_ls] at ih'
    refine br_f (nI_ge (by omega) (by omega)) ⟨vp_in_nI (by omega) (by omega), ?_⟩
    rw [nI_clamp (by omega)]
    refine oc_xcl hv ok (show i < n by omega) ?_
    refine pk_eq (oc_c v p i) x (fun e => ⟨vp_in_nI (by omega) (by omega), br_c (fun g => nm_r (nI_1 i) ?_) (fun g => ⟨vp_in_nI (by omega) (by omega), nm_e (nm_r (nI_1 i) ?_)⟩)⟩) (fun e => nm_r (nI_1 i) ?_)
    · have z : ¬ (oc_c v p i = x ∧ ¬ oc_ls (oc_c v p) m x i ≤ m i) := fun z => z.2 g
      rw [if_neg z] at ih'
      exact ih'
    · rw [if_pos ⟨e, g⟩] at ih'
      exact ih'
    · have z : ¬ (oc_c v p i = x ∧ ¬ oc_ls (oc_c v p) m x i ≤ m i) := fun z => e z.1
      rw [if_neg z] at ih'
      exact ih'
theorem oc_xms {post : Int32 → Prop} {v x n : Nat} {p m : Nat → Int32} (hv : v < 48) (hx : x < 192) (hn : n ≤ 40) (ok : oc_ok p n) (h : post (oc_ms (oc_c v p) m x n)) : ∀ d i : Nat, i + d = n → wX_most_25 post (nI v) (nI x) (nI n) p m (d + 1) (oc_ms (oc_c v p) m x i) (nI i) := by
  intro d
  induction d with
  | zero =>
    intro i hi
    have e : i = n := by omega
    subst e
    exact br_t (nI_le (Nat.le_refl _) (by omega)) h
  | succ d ih =>
    intro i hi
    have hc := oc_ok_c v ok i (by omega)
    have ih' := ih (i + 1) (by omega)
    rw [oc_ms] at ih'
    refine br_f (nI_ge (by omega) (by omega)) ⟨vp_in_nI (by omega) (by omega), ?_⟩
    rw [nI_clamp (by omega)]
    refine oc_xcl hv ok (show i < n by omega) ?_
    refine pk_eq (oc_c v p i) x (fun e => ⟨vp_in_nI (by omega) (by omega), br_c (fun g => nm_r (nI_1 i) ?_) (fun g => ⟨vp_in_nI (by omega) (by omega), nm_e (nm_r (nI_1 i) ?_)⟩)⟩) (fun e => nm_r (nI_1 i) ?_)
    · have z : ¬ (oc_c v p i = x ∧ ¬ m i ≤ oc_ms (oc_c v p) m x i) := fun z => z.2 g
      rw [if_neg z] at ih'
      exact ih'
    · rw [if_pos ⟨e, g⟩] at ih'
      exact ih'
    · have z : ¬ (oc_c v p i = x ∧ ¬ m i ≤ oc_ms (oc_c v p) m x i) := fun z => e z.1
      rw [if_neg z] at ih'
      exact ih'
theorem oc_xnx {post : Int32 → Prop} {v n : Nat} {a : Int32} {p m : Nat → Int32} (hv : v < 48) (hn : n ≤ 40) (ok : oc_ok p n) (h : post (oc_nx (oc_c v p) a n)) : ∀ d i : Nat, i + d = n → wX_next_15 post (nI v) a (nI n) p m (d + 1) (oc_nx (oc_c v p) a i) (nI i) := by
  intro d
  induction d with
  | zero =>
    intro i hi
    have e : i = n := by omega
    subst e
    exact br_t (nI_le (Nat.le_refl _) (by omega)) h
  | succ d ih =>
    intro i hi
    have hc := oc_ok_c v ok i (by omega)
    have ih' := ih (i + 1) (by omega)
    rw [oc_nx] at ih'
    have it : (a < nI (oc_c v p i) ∧ (oc_nx (oc_c v p) a i < 0 ∨ nI (oc_c v p i) < oc_nx (oc_c v p) a i)) → wX_next_15 post (nI v) a (nI n) p m (d + 1) (nI (oc_c v p i)) (nI (i + 1)) := fun z => by
      rw [if_pos z] at ih'
      exact ih'
    have ie : ¬ (a < nI (oc_c v p i) ∧ (oc_nx (oc_c v p) a i < 0 ∨ nI (oc_c v p i) < oc_nx (oc_c v p) a i)) → wX_next_15 post (nI v) a (nI n) p m (d + 1) (oc_nx (oc_c v p) a i) (nI (i + 1)) := fun z => by
      rw [if_neg z] at ih'
      exact ih'
    refine br_f (nI_ge (by omega) (by omega)) ⟨vp_in_nI (by omega) (by omega), ?_⟩
    rw [nI_clamp (by omega)]
    refine oc_xcl hv ok (show i < n by omega) ?_
    refine br_c (fun h1 => nm_r (nI_1 i) (ie ?_)) (fun h1 => br_c (fun h2 => nm_r (nI_1 i) (it ⟨Int32.not_le.mp h1, Or.inl h2⟩)) (fun h2 => br_c (fun h3 => nm_r (nI_1 i) (ie ?_)) (fun h3 => nm_r (nI_1 i) (it ⟨Int32.not_le.mp h1, Or.inr (Int32.not_le.mp h3)⟩))))
    · exact fun z => absurd z.1 (Int32.not_lt.mpr h1)
    · rintro ⟨_, z | z⟩
      · exact h2 z
      · exact absurd z (Int32.not_lt.mpr h3)
theorem oc_ytot5 {post : Int32 → Prop} {v x n : Nat} {p m : Nat → Int32} (hv : v < 48) (hx : x < 192) (hn : n ≤ 40) (ok : oc_ok p n) (h : post (oc_sm (oc_c v p) m x n)) : ∀ d i : Nat, i + d = n → wY_sum_23 post (nI v) (nI x) (nI n) p m (d + 1) (oc_sm (oc_c v p) m x i) (nI i) := by
  intro d
  induction d with
  | zero =>
    intro i hi
    have e : i = n := by omega
    subst e
    exact br_t (nI_le (Nat.le_refl _) (by omega)) h
  | succ d ih =>
    intro i hi
    have hc := oc_ok_c v ok i (by omega)
    have ih' := ih (i + 1) (by omega)
    rw [oc_sm] at ih'
    refine br_f (nI_ge (by omega) (by omega)) ⟨vp_in_nI (by omega) (by omega), ?_⟩
    rw [nI_clamp (by omega)]
    refine oc_ycl hv ok (show i < n by omega) ?_
    refine pk_eq (oc_c v p i) x (fun e => ⟨vp_in_nI (by omega) (by omega), nm_e (nm_r (nI_1 i) ?_)⟩) (fun e => nm_r (nI_1 i) ?_)
    · rw [if_pos e] at ih'
      exact ih'
    · rw [if_neg e] at ih'
      exact ih'
theorem oc_yct {post : Int32 → Prop} {v x n : Nat} {p m : Nat → Int32} (hv : v < 48) (hx : x < 192) (hn : n ≤ 40) (ok : oc_ok p n) (h : post (oc_ct (oc_c v p) x n)) : ∀ d i : Nat, i + d = n → wY_count_26 post (nI v) (nI x) (nI n) p m (d + 1) (oc_ct (oc_c v p) x i) (nI i) := by
  intro d
  induction d with
  | zero =>
    intro i hi
    have e : i = n := by omega
    subst e
    exact br_t (nI_le (Nat.le_refl _) (by omega)) h
  | succ d ih =>
    intro i hi
    have hc := oc_ok_c v ok i (by omega)
    have ih' := ih (i + 1) (by omega)
    rw [oc_ct] at ih'
    refine br_f (nI_ge (by omega) (by omega)) ⟨vp_in_nI (by omega) (by omega), ?_⟩
    rw [nI_clamp (by omega)]
    refine oc_ycl hv ok (show i < n by omega) ?_
    refine pk_eq (oc_c v p i) x (fun e => nm_e (nm_r (nI_1 i) ?_)) (fun e => nm_r (nI_1 i) ?_)
    · rw [if_pos e] at ih'
      exact ih'
    · rw [if_neg e] at ih'
      exact ih'
theorem oc_yls {post : Int32 → Prop} {v x n : Nat} {p m : Nat → Int32} (hv : v < 48) (hx : x < 192) (hn : n ≤ 40) (ok : oc_ok p n) (h : post (oc_ls (oc_c v p) m x n)) : ∀ d i : Nat, i + d = n → wY_least_27 post (nI v) (nI x) (nI n) p m (d + 1) (oc_ls (oc_c v p) m x i) (nI i) := by
  intro d
  induction d with
  | zero =>
    intro i hi
    have e : i = n := by omega
    subst e
    exact br_t (nI_le (Nat.le_refl _) (by omega)) h
  | succ d ih =>
    intro i hi
    have hc := oc_ok_c v ok i (by omega)
    have ih' := ih (i + 1) (by omega)
    rw [oc_ls] at ih'
    refine br_f (nI_ge (by omega) (by omega)) ⟨vp_in_nI (by omega) (by omega), ?_⟩
    rw [nI_clamp (by omega)]
    refine oc_ycl hv ok (show i < n by omega) ?_
    refine pk_eq (oc_c v p i) x (fun e => ⟨vp_in_nI (by omega) (by omega), br_c (fun g => nm_r (nI_1 i) ?_) (fun g => ⟨vp_in_nI (by omega) (by omega), nm_e (nm_r (nI_1 i) ?_)⟩)⟩) (fun e => nm_r (nI_1 i) ?_)
    · have z : ¬ (oc_c v p i = x ∧ ¬ oc_ls (oc_c v p) m x i ≤ m i) := fun z => z.2 g
      rw [if_neg z] at ih'
      exact ih'
    · rw [if_pos ⟨e, g⟩] at ih'
      exact ih'
    · have z : ¬ (oc_c v p i = x ∧ ¬ oc_ls (oc_c v p) m x i ≤ m i) := fun z => e z.1
      rw [if_neg z] at ih'
      exact ih'
theorem oc_yms {post : Int32 → Prop} {v x n : Nat} {p m : Nat → Int32} (hv : v < 48) (hx : x < 192) (hn : n ≤ 40) (ok : oc_ok p n) (h : post (oc_ms (oc_c v p) m x n)) : ∀ d i : Nat, i + d = n → wY_most_27 post (nI v) (nI x) (nI n) p m (d + 1) (oc_ms (oc_c v p) m x i) (nI i) := by
  intro d
  induction d with
  | zero =>
    intro i hi
    have e : i = n := by omega
    subst e
    exact br_t (nI_le (Nat.le_refl _) (by omega)) h
  | succ d ih =>
    intro i hi
    have hc := oc_ok_c v ok i (by omega)
    have ih' := ih (i + 1) (by omega)
    rw [oc_ms] at ih'
    refine br_f (nI_ge (by omega) (by omega)) ⟨vp_in_nI (by omega) (by omega), ?_⟩
    rw [nI_clamp (by omega)]
    refine oc_ycl hv ok (show i < n by omega) ?_
    refine pk_eq (oc_c v p i) x (fun e => ⟨vp_in_nI (by omega) (by omega), br_c (fun g => nm_r (nI_1 i) ?_) (fun g => ⟨vp_in_nI (by omega) (by omega), nm_e (nm_r (nI_1 i) ?_)⟩)⟩) (fun e => nm_r (nI_1 i) ?_)
    · have z : ¬ (oc_c v p i = x ∧ ¬ m i ≤ oc_ms (oc_c v p) m x i) := fun z => z.2 g
      rw [if_neg z] at ih'
      exact ih'
    · rw [if_pos ⟨e, g⟩] at ih'
      exact ih'
    · have z : ¬ (oc_c v p i = x ∧ ¬ m i ≤ oc_ms (oc_c v p) m x i) := fun z => e z.1
      rw [if_neg z] at ih'
      exact ih'
theorem oc_ynx {post : Int32 → Prop} {v n : Nat} {a : Int32} {p m : Nat → Int32} (hv : v < 48) (hn : n ≤ 40) (ok : oc_ok p n) (h : post (oc_nx (oc_c v p) a n)) : ∀ d i : Nat, i + d = n → wY_next_16 post (nI v) a (nI n) p m (d + 1) (oc_nx (oc_c v p) a i) (nI i) := by
  intro d
  induction d with
  | zero =>
    intro i hi
    have e : i = n := by omega
    subst e
    exact br_t (nI_le (Nat.le_refl _) (by omega)) h
  | succ d ih =>
    intro i hi
    have hc := oc_ok_c v ok i (by omega)
    have ih' := ih (i + 1) (by omega)
    rw [oc_nx] at ih'
    have it : (a < nI (oc_c v p i) ∧ (oc_nx (oc_c v p) a i < 0 ∨ nI (oc_c v p i) < oc_nx (oc_c v p) a i)) → wY_next_16 post (nI v) a (nI n) p m (d + 1) (nI (oc_c v p i)) (nI (i + 1)) := fun z => by
      rw [if_pos z] at ih'
      exact ih'
    have ie : ¬ (a < nI (oc_c v p i) ∧ (oc_nx (oc_c v p) a i < 0 ∨ nI (oc_c v p i) < oc_nx (oc_c v p) a i)) → wY_next_16 post (nI v) a (nI n) p m (d + 1) (oc_nx (oc_c v p) a i) (nI (i + 1)) := fun z => by
      rw [if_neg z] at ih'
      exact ih'
    refine br_f (nI_ge (by omega) (by omega)) ⟨vp_in_nI (by omega) (by omega), ?_⟩
    rw [nI_clamp (by omega)]
    refine oc_ycl hv ok (show i < n by omega) ?_
    refine br_c (fun h1 => nm_r (nI_1 i) (ie ?_)) (fun h1 => br_c (fun h2 => nm_r (nI_1 i) (it ⟨Int32.not_le.mp h1, Or.inl h2⟩)) (fun h2 => br_c (fun h3 => nm_r (nI_1 i) (ie ?_)) (fun h3 => nm_r (nI_1 i) (it ⟨Int32.not_le.mp h1, Or.inr (Int32.not_le.mp h3)⟩))))
    · exact fun z => absurd z.1 (Int32.not_lt.mpr h1)
    · rintro ⟨_, z | z⟩
      · exact h2 z
      · exact absurd z (Int32.not_lt.mpr h3)
theorem oc_xtot {post : Int32 → Prop} {v x n : Nat} {p m : Nat → Int32} (hv : v < 48) (hx : x < 192) (hn : n ≤ 40) (ok : oc_ok p n) (h : post (oc_sm (oc_c v p) m x n)) : wpX_total post (nI n, p, m) (nI v) (nI x) := by
  show ∃ n5 : Nat, wX_total_5 post (nI v) (nI x) (nI n) p m n5 0 0
  exact ⟨n + 1, oc_xtot5 hv hx hn ok h n 0 (by omega)⟩
theorem oc_ysum {post : Int32 → Prop} {v x n : Nat} {p m : Nat → Int32} (hv : v < 48) (hx : x < 192) (hn : n ≤ 40) (ok : oc_ok p n) (h : post (oc_sm (oc_c v p) m x n)) : wpY_sum post (nI n, p, m) (nI v) (nI x) := by
  unfold wpY_sum
  dsimp only
  refine oc_yV1 hv ?_
  refine br_t rfl ?_
  refine oc_yC1 hx ?_
  refine br_t rfl ?_
  exact ⟨n + 1, oc_ytot5 hv hx hn ok h n 0 (by omega)⟩
theorem oc_xnext {post : Int32 → Prop} {v n : Nat} {a : Int32} {p m : Nat → Int32} (hv : v < 48) (hn : n ≤ 40) (ok : oc_ok p n) (h : post (oc_nx (oc_c v p) a n)) : wpX_next post (nI n, p, m) (nI v) a := by
  unfold wpX_next
  dsimp only
  refine oc_xV1 hv ?_
  refine br_f (by decide) ?_
  exact ⟨n + 1, oc_xnx hv hn ok h n 0 (by omega)⟩
theorem oc_ynext {post : Int32 → Prop} {v n : Nat} {a : Int32} {p m : Nat → Int32} (hv : v < 48) (hn : n ≤ 40) (ok : oc_ok p n) (h : post (oc_nx (oc_c v p) a n)) : wpY_next post (nI n, p, m) (nI v) a := by
  unfold wpY_next
  dsimp only
  refine oc_yV1 hv ?_
  refine br_t rfl ?_
  exact ⟨n + 1, oc_ynx hv hn ok h n 0 (by omega)⟩
