def oc_in (c : Nat → Nat) (m : Nat) : Nat → Bool
  | 0 => false
  | n + 1 => oc_in c m n || (c n == m)
theorem oc_in_t {c : Nat → Nat} {m : Nat} : ∀ {n : Nat}, oc_in c m n = true ↔ ∃ j, j < n ∧ c j = m := by
  intro n
  induction n with
  | zero => simp [oc_in]
  | succ n ih =>
    rw [oc_in, Bool.or_eq_true, ih, beq_iff_eq]
    constructor
    · rintro (⟨j, hj, e⟩ | e)
      · exact ⟨j, by omega, e⟩
      · exact ⟨n, by omega, e⟩
    · rintro ⟨j, hj, e⟩
      by_cases h : j = n
      · exact Or.inr (h ▸ e)
      · exact Or.inl ⟨j, by omega, e⟩
theorem oc_in_f {c : Nat → Nat} {m n : Nat} : oc_in c m n = false ↔ ∀ j, j < n → c j ≠ m := by
  rw [← Bool.not_eq_true, oc_in_t]
  constructor
  · intro h j hj e
    exact h ⟨j, hj, e⟩
  · rintro h ⟨j, hj, e⟩
    exact h j hj e
theorem oc_in_lt {c : Nat → Nat} {m n : Nat} (hc : ∀ j, j < n → c j < 192) (h : oc_in c m n = true) : m < 192 := by
  obtain ⟨j, hj, e⟩ := oc_in_t.mp h
  rw [← e]
  exact hc j hj
def oc_fc (c : Nat → Nat) (t : Nat → Bool) : Nat → Nat
  | 0 => 0
  | n + 1 => if oc_in c (c n) n = false ∧ t (c n) = true then oc_fc c t n + 1 else oc_fc c t n
theorem oc_fc_le {c : Nat → Nat} {t : Nat → Bool} : ∀ n : Nat, oc_fc c t n ≤ n := by
  intro n
  induction n with
  | zero => exact Nat.le_refl 0
  | succ n ih =>
    rw [oc_fc]
    split
    · omega
    · omega
def oc_D (e : Nat → Bool) : Nat → Nat → Nat
  | 0, _ => 0
  | k + 1, a => (if e a = true then 1 else 0) + oc_D e k (a + 1)
theorem oc_D_ext {e e' : Nat → Bool} : ∀ k a : Nat, (∀ m, a ≤ m → m < a + k → e m = e' m) → oc_D e k a = oc_D e' k a := by
  intro k
  induction k with
  | zero => intro a _; rfl
  | succ k ih =>
    intro a h
    rw [oc_D, oc_D, h a (Nat.le_refl a) (by omega), ih (a + 1) (fun m h1 h2 => h m (by omega) (by omega))]
theorem oc_D_skip {e : Nat → Bool} : ∀ d k a : Nat, (∀ m, a ≤ m → m < a + d → e m = false) → oc_D e (d + k) a = oc_D e k (a + d) := by
  intro d
  induction d with
  | zero =>
    intro k a _
    rw [Nat.zero_add]
    rfl
  | succ d ih =>
    intro k a h
    rw [show d + 1 + k = (d + k) + 1 from by omega, oc_D, h a (Nat.le_refl a) (by omega), ih k (a + 1) (fun m h1 h2 => h m (by omega) (by omega)), show a + 1 + d = a + (d + 1) from by omega, if_neg (by decide : ¬ (false = true)), Nat.zero_add]
theorem oc_D_0 {e : Nat → Bool} {k a : Nat} (h : ∀ m, a ≤ m → m < a + k → e m = false) : oc_D e k a = 0 := by
  have z := oc_D_skip k 0 a h
  rw [Nat.add_zero] at z
  rw [z]
  rfl
theorem oc_D_add {e e' : Nat → Bool} {x : Nat} (hx : e x = false) (hx' : e' x = true) (hr : ∀ m, m ≠ x → e' m = e m) : ∀ k a : Nat, a ≤ x → x < a + k → oc_D e' k a = oc_D e k a + 1 := by
  intro k
  induction k with
  | zero => intro a h1 h2; omega
  | succ k ih =>
    intro a h1 h2
    rw [oc_D, oc_D]
    by_cases h : a = x
    · subst h
      rw [hx, hx', oc_D_ext (e := e') (e' := e) k (a + 1) (fun m q _ => hr m (by omega)), if_pos rfl, if_neg (by decide : ¬ (false = true)), Nat.zero_add, Nat.add_comm]
    · rw [hr a h, ih (a + 1) (by omega) (by omega)]
      exact (Nat.add_assoc _ _ _).symm
theorem oc_D_step {e : Nat → Bool} {b m : Nat} (hb : b ≤ m) (hm : m < 192) (h : ∀ q, b ≤ q → q < m → e q = false) : oc_D e (192 - b) b = (if e m = true then 1 else 0) + oc_D e (192 - (m + 1)) (m + 1) := by
  have h1 := oc_D_skip (e := e) (m - b) (192 - m) b (fun q h1 h2 => h q h1 (by omega))
  rw [show m - b + (192 - m) = 192 - b from by omega, show b + (m - b) = m from by omega] at h1
  rw [h1, show 192 - m = (192 - (m + 1)) + 1 from by omega, oc_D]
def oc_e (c : Nat → Nat) (t : Nat → Bool) (n m : Nat) : Bool := oc_in c m n && t m
theorem oc_fc_D {c : Nat → Nat} {t : Nat → Bool} : ∀ n : Nat, (∀ j, j < n → c j < 192) → oc_fc c t n = oc_D (oc_e c t n) 192 0 := by
  intro n
  induction n with
  | zero =>
    intro _
    exact (oc_D_0 (fun m _ _ => rfl)).symm
  | succ n ih =>
    intro h
    have ih' := ih (fun j hj => h j (by omega))
    have hc := h n (by omega)
    rw [oc_fc]
    by_cases q : oc_in c (c n) n = false ∧ t (c n) = true
    · rw [if_pos q, ih']
      refine (oc_D_add (x := c n) ?_ ?_ ?_ 192 0 (Nat.zero_le _) (by omega)).symm
      · show (oc_in c (c n) n && t (c n)) = false
        rw [q.1]
        rfl
      · show ((oc_in c (c n) n || (c n == c n)) && t (c n)) = true
        rw [q.2]
        simp
      · intro m hm
        show ((oc_in c m n || (c n == m)) && t m) = (oc_in c m n && t m)
        rw [beq_false_of_ne (fun z => hm z.symm), Bool.or_false]
    · rw [if_neg q, ih']
      refine oc_D_ext 192 0 (fun m _ _ => ?_)
      show (oc_in c m n && t m) = ((oc_in c m n || (c n == m)) && t m)
      by_cases hm : c n = m
      · subst hm
        cases h1 : oc_in c (c n) n
        · cases h2 : t (c n)
          · simp
          · exact absurd ⟨h1, h2⟩ q
        · simp
      · rw [beq_false_of_ne hm, Bool.or_false]
def oc_nx (c : Nat → Nat) (a : Int32) : Nat → Int32
  | 0 => -2
  | n + 1 => if a < nI (c n) ∧ (oc_nx c a n < 0 ∨ nI (c n) < oc_nx c a n) then nI (c n) else oc_nx c a n
theorem oc_nx_spec {c : Nat → Nat} {a : Int32} : ∀ n : Nat, (∀ j, j < n → c j < 192) → (oc_nx c a n = -2 ∧ ∀ j, j < n → ¬ a < nI (c j)) ∨ ∃ m : Nat, m < 192 ∧ oc_nx c a n = nI m ∧ (∃ j, j < n ∧ c j = m) ∧ a < nI m ∧ ∀ j, j < n → a < nI (c j) → m ≤ c j := by
  intro n
  induction n with
  | zero =>
    intro _
    exact Or.inl ⟨rfl, fun j hj => absurd hj (Nat.not_lt_zero j)⟩
  | succ n ih =>
    intro h
    have hc := h n (by omega)
    rw [oc_nx]
    rcases ih (fun j hj => h j (by omega)) with ⟨e, hn⟩ | ⟨m, hm, e, ⟨j0, hj0, ej0⟩, ha, hl⟩
    · rw [e]
      by_cases q : a < nI (c n)
      · refine Or.inr ⟨c n, hc, if_pos ⟨q, Or.inl (by decide)⟩, ⟨n, by omega, rfl⟩, q, fun j hj haj => ?_⟩
        by_cases z : j = n
        · subst z; exact Nat.le_refl _
        · exact absurd haj (hn j (by omega))
      · refine Or.inl ⟨if_neg (fun z => q z.1), fun j hj => ?_⟩
        by_cases z : j = n
        · subst z; exact q
        · exact hn j (by omega)
    · rw [e]
      by_cases q : a < nI (c n) ∧ c n < m
      · refine Or.inr ⟨c n, hc, if_pos ⟨q.1, Or.inr (nI_lt q.2 (by omega))⟩, ⟨n, by omega, rfl⟩, q.1, fun j hj haj => ?_⟩
        by_cases z : j = n
        · subst z; exact Nat.le_refl _
        · have w := hl j (by omega) haj
          omega
      · have hne : ¬ (a < nI (c n) ∧ (nI m < 0 ∨ nI (c n) < nI m)) := by
          rintro ⟨h1, h2 | h2⟩
          · exact nI_pos (by omega) h2
          · exact q ⟨h1, (nI_ltI (by omega) (by omega)).mp h2⟩
        refine Or.inr ⟨m, hm, if_neg hne, ⟨j0, by omega, ej0⟩, ha, fun j hj haj => ?_⟩
        by_cases z : j = n
        · subst z
          have w : ¬ c j < m := fun w => q ⟨haj, w⟩
          omega
        · exact hl j (by omega) haj
def oc_af (a : Int32) (b : Nat) : Prop := ∀ x, x < 192 → (a < nI x ↔ b ≤ x)
theorem oc_af_0 : oc_af (-1) 0 := by
  intro x hx
  refine ⟨fun _ => Nat.zero_le x, fun _ => ?_⟩
  rw [Int32.lt_iff_toInt_lt, nI_toInt (by omega), show (-1 : Int32).toInt = -1 from by decide]
  omega
theorem oc_af_s {m : Nat} (hm : m < 192) : oc_af (nI m) (m + 1) := by
  intro x hx
  rw [nI_ltI (by omega) (by omega)]
  omega
theorem oc_nx_b {c : Nat → Nat} {n b : Nat} {a : Int32} (hc : ∀ j, j < n → c j < 192) (hb : oc_af a b) : (oc_nx c a n = -2 ∧ ∀ m, b ≤ m → m < 192 → oc_in c m n = false) ∨ ∃ m : Nat, m < 192 ∧ b ≤ m ∧ oc_nx c a n = nI m ∧ oc_in c m n = true ∧ ∀ q, b ≤ q → q < m → oc_in c q n = false := by
  rcases oc_nx_spec (c := c) (a := a) n hc with ⟨e, hn⟩ | ⟨m, hm, e, hj, ha, hl⟩
  · refine Or.inl ⟨e, fun m h1 h2 => oc_in_f.mpr (fun j hj z => ?_)⟩
    subst z
    exact hn j hj ((hb _ h2).mpr h1)
  · refine Or.inr ⟨m, hm, (hb m hm).mp ha, e, oc_in_t.mpr hj, fun q h1 h2 => oc_in_f.mpr (fun j hj z => ?_)⟩
    subst z
    have w := hl j hj ((hb _ (by omega)).mpr h1)
    omega
def oc_bp (F : Nat → Prop) (S : Nat → Int32) (f s : Int32) : Prop := (f = -2 ∧ s = 0 ∧ ∀ q, ¬ F q) ∨ ∃ m : Nat, m < 192 ∧ f = nI m ∧ s = S m ∧ F m ∧ ∀ q, F q → S q < S m ∨ (S q = S m ∧ m ≤ q)
theorem oc_bp_t {F F' : Nat → Prop} {S : Nat → Int32} {f s : Int32} {x : Nat} (h : oc_bp F S f s) (hx : x < 192) (hF : ∀ q, F' q ↔ (F q ∨ q = x)) (hq : f < 0 ∨ s < S x ∨ (S x = s ∧ nI x < f)) : oc_bp F' S (nI x) (S x) := by
  refine Or.inr ⟨x, hx, rfl, rfl, (hF x).mpr (Or.inr rfl), fun q hqF => ?_⟩
  rcases (hF q).mp hqF with hq1 | hq1
  · rcases h with ⟨_, _, hn⟩ | ⟨m, hm, rfl, rfl, hFm, hl⟩
    · exact absurd hq1 (hn q)
    · have w := hl q hq1
      rcases hq with hq | hq | hq
      · exact absurd hq (nI_pos (by omega))
      · rw [Int32.lt_iff_toInt_lt] at hq
        rw [Int32.lt_iff_toInt_lt] at w ⊢
        left
        rcases w with w | w
        · omega
        · rw [w.1]; exact hq
      · rw [nI_ltI (by omega) (by omega)] at hq
        rw [hq.1]
        rcases w with w | w
        · exact Or.inl w
        · exact Or.inr ⟨w.1, by omega⟩
  · rw [hq1]
    exact Or.inr ⟨rfl, Nat.le_refl _⟩
theorem oc_bp_n {F F' : Nat → Prop} {S : Nat → Int32} {f s : Int32} {x : Nat} (h : oc_bp F S f s) (hx : x < 192) (hF : ∀ q, F' q ↔ (F q ∨ q = x)) (hq : ¬ (f < 0 ∨ s < S x ∨ (S x = s ∧ nI x < f))) : oc_bp F' S f s := by
  rcases h with ⟨hf, _, hn⟩ | ⟨m, hm, rfl, rfl, hFm, hl⟩
  · exact absurd (Or.inl (by rw [hf]; decide)) hq
  · refine Or.inr ⟨m, hm, rfl, rfl, (hF m).mpr (Or.inl hFm), fun q hqF => ?_⟩
    rcases (hF q).mp hqF with hq1 | hq1
    · exact hl q hq1
    · rw [hq1]
      by_cases e : S x = S m
      · refine Or.inr ⟨e, ?_⟩
        have w : ¬ nI x < nI m := fun w => hq (Or.inr (Or.inr ⟨e, w⟩))
        rw [nI_ltI (by omega) (by omega)] at w
        omega
      · have w : ¬ S m < S x := fun w => hq (Or.inr (Or.inl w))
        left
        rw [Int32.lt_iff_toInt_lt] at w ⊢
        have z : (S x).toInt ≠ (S m).toInt := fun z => e (Int32.toInt_inj.mp z)
        omega
theorem oc_bp_u {F F' : Nat → Prop} {S : Nat → Int32} {f s f' s' : Int32} (hF : ∀ q, F q ↔ F' q) (h : oc_bp F S f s) (h' : oc_bp F' S f' s') : f' = f := by
  rcases h with ⟨hf, _, hn⟩ | ⟨m, hm, rfl, rfl, hFm, hl⟩
  · rcases h' with ⟨hf', _, hn'⟩ | ⟨m', hm', _, _, hFm', hl'⟩
    · rw [hf, hf']
    · exact absurd ((hF m').mpr hFm') (hn m')
  · rcases h' with ⟨hf', _, hn'⟩ | ⟨m', hm', rfl, rfl, hFm', hl'⟩
    · exact absurd ((hF m).mp hFm) (hn' m)
    · have a := hl m' ((hF m').mpr hFm')
      have b := hl' m ((hF m).mp hFm)
      rw [Int32.lt_iff_toInt_lt] at a b
      rcases a with a | ⟨a1, a2⟩
      · rcases b with b | ⟨b1, _⟩
        · omega
        · rw [b1] at a; omega
      · rcases b with b | ⟨_, b2⟩
        · rw [a1] at b; omega
        · exact congrArg nI (by omega)
