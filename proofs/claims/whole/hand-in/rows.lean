section
theorem pk_us {f : Nat → Int32} {k : Nat} {x : Int32} : upd f k x k = x := if_pos rfl
theorem pk_un {f : Nat → Int32} {k j : Nat} {x : Int32} (h : j ≠ k) : upd f k x j = f j := if_neg h
theorem pk_sub {a b : Nat} (h : b ≤ a) : nI a - nI b = nI (a - b) := by
  obtain ⟨c, rfl⟩ : ∃ c, a = c + b := ⟨a - b, by omega⟩
  rw [← nI_add, Int32.add_sub_cancel, Nat.add_sub_cancel]
theorem pk_m1 (n : Nat) : nI (n + 1) + (-1) = nI n := by
  rw [← nI_1, Int32.add_assoc, show (1 : Int32) + (-1) = 0 from rfl, Int32.add_zero]
theorem pk_mul (a b : Nat) : nI a * nI b = nI (a * b) := (Int32.ofNat_mul a b).symm
theorem pk_div {a d : Nat} (ha : a < 2 ^ 31) (h0 : 0 < d) (hd : d < 2 ^ 31) : nI a / nI d = nI (a / d) := by
  apply Int32.toInt_inj.mp
  rw [lg_idiv_nonneg (by rw [nI_toInt ha]; omega) (by rw [nI_toInt hd]; omega), nI_toInt ha, nI_toInt hd, nI_toInt (Nat.lt_of_le_of_lt (Nat.div_le_self a d) ha)]
  first | rfl | exact (Int.natCast_ediv _ _).symm
theorem pk_rem {a d : Nat} (ha : a < 2 ^ 31) (h0 : 0 < d) (hd : d < 2 ^ 31) : nI a - nI a / nI d * nI d = nI (a % d) := by
  rw [pk_div ha h0 hd, pk_mul, pk_sub (Nat.div_mul_le_self a d)]
  exact congrArg nI (by have := Nat.div_add_mod' a d; omega)
theorem pk_sub_toInt {a b : Nat} (ha : a < 2 ^ 30) (hb : b < 2 ^ 30) : (nI a - nI b).toInt = (a : Int) - b := by
  rw [Int32.toInt_sub, nI_toInt (by omega), nI_toInt (by omega)]
  exact Int.bmod_eq_of_le (by omega) (by omega)
theorem pk_ix (x : Int32) {n : Nat} (hn : n < 2 ^ 31) : x < 0 ∨ nI n ≤ x ∨ ∃ j : Nat, j < n ∧ x = nI j := by
  by_cases h : x < 0
  · exact Or.inl h
  · obtain ⟨j, hj, rfl⟩ := nI_of h
    by_cases h2 : j < n
    · exact Or.inr (Or.inr ⟨j, h2, rfl⟩)
    · exact Or.inr (Or.inl (nI_le (by omega) hj))
theorem pk_le {x y : Int32} {A B : Prop} (a b : Nat) (f : a ≤ b → A) (g : b < a → B) (hx : x = nI a := by rfl) (hy : y = nI b := by rfl) (ha : a < 2 ^ 31 := by omega) (hb : b < 2 ^ 31 := by omega) : (x ≤ y → A) ∧ (¬ x ≤ y → B) := by
  subst hx hy
  rw [nI_leI ha hb]
  exact ⟨f, fun z => g (by omega)⟩
theorem pk_lt {x y : Int32} {A B : Prop} (a b : Nat) (f : a < b → A) (g : b ≤ a → B) (hx : x = nI a := by rfl) (hy : y = nI b := by rfl) (ha : a < 2 ^ 31 := by omega) (hb : b < 2 ^ 31 := by omega) : (x < y → A) ∧ (¬ x < y → B) := by
  subst hx hy
  rw [nI_ltI ha hb]
  exact ⟨f, fun z => g (by omega)⟩
theorem pk_eq {x y : Int32} {A B : Prop} (a b : Nat) (f : a = b → A) (g : a ≠ b → B) (hx : x = nI a := by rfl) (hy : y = nI b := by rfl) (ha : a < 2 ^ 31 := by omega) (hb : b < 2 ^ 31 := by omega) : (x = y → A) ∧ (¬ x = y → B) := by
  subst hx hy
  rw [nI_eq ha hb]
  exact ⟨f, g⟩
theorem pk_in {x : Int32} (n N : Nat) (h : n < N) (hx : x = nI n := by rfl) (hN : N < 2 ^ 31 := by omega) : vp_in x N := by
  subst hx
  exact vp_in_nI h hN
theorem pk_cl {x : Int32} (n : Nat) (hx : x = nI n := by rfl) (h : n < 2 ^ 31 := by omega) : x.toNatClampNeg = n := by
  subst hx
  exact nI_clamp h
theorem pk_loop {σ : Type} (W : Nat → Nat → σ → Prop) (I : Nat → σ → Prop) (e i0 : Nat) (s : σ) (hi : i0 ≤ e) (h0 : I i0 s) (hx : ∀ n s, I e s → W (n + 1) e s)
    (hs : ∀ n i s, i < e → I i s → (∀ s', I (i + 1) s' → W n (i + 1) s') → W (n + 1) i s) : ∃ n, W n i0 s :=
  ⟨e + 1, loop_i W I e hx hs (e + 1) i0 s hi (by omega) h0⟩
end
section
def oc_in (c : Nat → Nat) (m : Nat) : Nat → Bool
  | 0 => false
  | n + 1 => oc_in c m n || (c n == m)
theorem oc_in_t {c : Nat → Nat} {m : Nat} : ∀ {n : Nat}, oc_in c m n = true ↔ ∃ j, j < n ∧ c j = m := by
  intro n
  induction n with
  | zero => simp [oc_in]
  | succ n ih =>
    rw [oc_in, Bool.or_eq_true, ih, beq_iff_eq]
    constructor
    · rintro (⟨j, hj, e⟩ | e)
      · exact ⟨j, by omega, e⟩
      · exact ⟨n, by omega, e⟩
    · rintro ⟨j, hj, e⟩
      by_cases h : j = n
      · exact Or.inr (h ▸ e)
      · exact Or.inl ⟨j, by omega, e⟩
theorem oc_in_f {c : Nat → Nat} {m n : Nat} : oc_in c m n = false ↔ ∀ j, j < n → c j ≠ m := by
  rw [← Bool.not_eq_true, oc_in_t]
  constructor
  · intro h j hj e
    exact h ⟨j, hj, e⟩
  · rintro h ⟨j, hj, e⟩
    exact h j hj e
theorem oc_in_lt {c : Nat → Nat} {m n : Nat} (hc : ∀ j, j < n → c j < 192) (h : oc_in c m n = true) : m < 192 := by
  obtain ⟨j, hj, e⟩ := oc_in_t.mp h
  rw [← e]
  exact hc j hj
def oc_fc (c : Nat → Nat) (t : Nat → Bool) : Nat → Nat
  | 0 => 0
  | n + 1 => if oc_in c (c n) n = false ∧ t (c n) = true then oc_fc c t n + 1 else oc_fc c t n
theorem oc_fc_le {c : Nat → Nat} {t : Nat → Bool} : ∀ n : Nat, oc_fc c t n ≤ n := by
  intro n
  induction n with
  | zero => exact Nat.le_refl 0
  | succ n ih =>
    rw [oc_fc]
    split
    · omega
    · omega
def oc_D (e : Nat → Bool) : Nat → Nat → Nat
  | 0, _ => 0
  | k + 1, a => (if e a = true then 1 else 0) + oc_D e k (a + 1)
theorem oc_D_ext {e e' : Nat → Bool} : ∀ k a : Nat, (∀ m, a ≤ m → m < a + k → e m = e' m) → oc_D e k a = oc_D e' k a := by
  intro k
  induction k with
  | zero => intro a _; rfl
  | succ k ih =>
    intro a h
    rw [oc_D, oc_D, h a (Nat.le_refl a) (by omega), ih (a + 1) (fun m h1 h2 => h m (by omega) (by omega))]
theorem oc_D_skip {e : Nat → Bool} : ∀ d k a : Nat, (∀ m, a ≤ m → m < a + d → e m = false) → oc_D e (d + k) a = oc_D e k (a + d) := by
  intro d
  induction d with
  | zero =>
    intro k a _
    rw [Nat.zero_add]
    rfl
  | succ d ih =>
    intro k a h
    rw [show d + 1 + k = (d + k) + 1 from by omega, oc_D, h a (Nat.le_refl a) (by omega), ih k (a + 1) (fun m h1 h2 => h m (by omega) (by omega)), show a + 1 + d = a + (d + 1) from by omega, if_neg (by decide : ¬ (false = true)), Nat.zero_add]
theorem oc_D_0 {e : Nat → Bool} {k a : Nat} (h : ∀ m, a ≤ m → m < a + k → e m = false) : oc_D e k a = 0 := by
  have z := oc_D_skip k 0 a h
  rw [Nat.add_zero] at z
  rw [z]
  rfl
theorem oc_D_add {e e' : Nat → Bool} {x : Nat} (hx : e x = false) (hx' : e' x = true) (hr : ∀ m, m ≠ x → e' m = e m) : ∀ k a : Nat, a ≤ x → x < a + k → oc_D e' k a = oc_D e k a + 1 := by
  intro k
  induction k with
  | zero => intro a h1 h2; omega
  | succ k ih =>
    intro a h1 h2
    rw [oc_D, oc_D]
    by_cases h : a = x
    · subst h
      rw [hx, hx', oc_D_ext (e := e') (e' := e) k (a + 1) (fun m q _ => hr m (by omega)), if_pos rfl, if_neg (by decide : ¬ (false = true)), Nat.zero_add, Nat.add_comm]
    · rw [hr a h, ih (a + 1) (by omega) (by omega)]
      exact (Nat.add_assoc _ _ _).symm
theorem oc_D_step {e : Nat → Bool} {b m : Nat} (hb : b ≤ m) (hm : m < 192) (h : ∀ q, b ≤ q → q < m → e q = false) : oc_D e (192 - b) b = (if e m = true then 1 else 0) + oc_D e (192 - (m + 1)) (m + 1) := by
  have h1 := oc_D_skip (e := e) (m - b) (192 - m) b (fun q h1 h2 => h q h1 (by omega))
  rw [show m - b + (192 - m) = 192 - b from by omega, show b + (m - b) = m from by omega] at h1
  rw [h1, show 192 - m = (192 - (m + 1)) + 1 from by omega, oc_D]
def oc_e (c : Nat → Nat) (t : Nat → Bool) (n m : Nat) : Bool := oc_in c m n && t m
theorem oc_fc_D {c : Nat → Nat} {t : Nat → Bool} : ∀ n : Nat, (∀ j, j < n → c j < 192) → oc_fc c t n = oc_D (oc_e c t n) 192 0 := by
  intro n
  induction n with
  | zero =>
    intro _
    exact (oc_D_0 (fun m _ _ => rfl)).symm
  | succ n ih =>
    intro h
    have ih' := ih (fun j hj => h j (by omega))
    have hc := h n (by omega)
    rw [oc_fc]
    by_cases q : oc_in c (c n) n = false ∧ t (c n) = true
    · rw [if_pos q, ih']
      refine (oc_D_add (x := c n) ?_ ?_ ?_ 192 0 (Nat.zero_le _) (by omega)).symm
      · show (oc_in c (c n) n && t (c n)) = false
        rw [q.1]
        rfl
      · show ((oc_in c (c n) n || (c n == c n)) && t (c n)) = true
        rw [q.2]
        simp
      · intro m hm
        show ((oc_in c m n || (c n == m)) && t m) = (oc_in c m n && t m)
        rw [beq_false_of_ne (fun z => hm z.symm), Bool.or_false]
    · rw [if_neg q, ih']
      refine oc_D_ext 192 0 (fun m _ _ => ?_)
      show (oc_in c m n && t m) = ((oc_in c m n || (c n == m)) && t m)
      by_cases hm : c n = m
      · subst hm
        cases h1 : oc_in c (c n) n
        · cases h2 : t (c n)
          · simp
          · exact absurd ⟨h1, h2⟩ q
        · simp
      · rw [beq_false_of_ne hm, Bool.or_false]
def oc_nx (c : Nat → Nat) (a : Int32) : Nat → Int32
  | 0 => -2
  | n + 1 => if a < nI (c n) ∧ (oc_nx c a n < 0 ∨ nI (c n) < oc_nx c a n) then nI (c n) else oc_nx c a n
theorem oc_nx_spec {c : Nat → Nat} {a : Int32} : ∀ n : Nat, (∀ j, j < n → c j < 192) → (oc_nx c a n = -2 ∧ ∀ j, j < n → ¬ a < nI (c j)) ∨ ∃ m : Nat, m < 192 ∧ oc_nx c a n = nI m ∧ (∃ j, j < n ∧ c j = m) ∧ a < nI m ∧ ∀ j, j < n → a < nI (c j) → m ≤ c j := by
  intro n
  induction n with
  | zero =>
    intro _
    exact Or.inl ⟨rfl, fun j hj => absurd hj (Nat.not_lt_zero j)⟩
  | succ n ih =>
    intro h
    have hc := h n (by omega)
    rw [oc_nx]
    rcases ih (fun j hj => h j (by omega)) with ⟨e, hn⟩ | ⟨m, hm, e, ⟨j0, hj0, ej0⟩, ha, hl⟩
    · rw [e]
      by_cases q : a < nI (c n)
      · refine Or.inr ⟨c n, hc, if_pos ⟨q, Or.inl (by decide)⟩, ⟨n, by omega, rfl⟩, q, fun j hj haj => ?_⟩
        by_cases z : j = n
        · subst z; exact Nat.le_refl _
        · exact absurd haj (hn j (by omega))
      · refine Or.inl ⟨if_neg (fun z => q z.1), fun j hj => ?_⟩
        by_cases z : j = n
        · subst z; exact q
        · exact hn j (by omega)
    · rw [e]
      by_cases q : a < nI (c n) ∧ c n < m
      · refine Or.inr ⟨c n, hc, if_pos ⟨q.1, Or.inr (nI_lt q.2 (by omega))⟩, ⟨n, by omega, rfl⟩, q.1, fun j hj haj => ?_⟩
        by_cases z : j = n
        · subst z; exact Nat.le_refl _
        · have w := hl j (by omega) haj
          omega
      · have hne : ¬ (a < nI (c n) ∧ (nI m < 0 ∨ nI (c n) < nI m)) := by
          rintro ⟨h1, h2 | h2⟩
          · exact nI_pos (by omega) h2
          · exact q ⟨h1, (nI_ltI (by omega) (by omega)).mp h2⟩
        refine Or.inr ⟨m, hm, if_neg hne, ⟨j0, by omega, ej0⟩, ha, fun j hj haj => ?_⟩
        by_cases z : j = n
        · subst z
          have w : ¬ c j < m := fun w => q ⟨haj, w⟩
          omega
        · exact hl j (by omega) haj
def oc_af (a : Int32) (b : Nat) : Prop := ∀ x, x < 192 → (a < nI x ↔ b ≤ x)
theorem oc_af_0 : oc_af (-1) 0 := by
  intro x hx
  refine ⟨fun _ => Nat.zero_le x, fun _ => ?_⟩
  rw [Int32.lt_iff_toInt_lt, nI_toInt (by omega), show (-1 : Int32).toInt = -1 from by decide]
  omega
theorem oc_af_s {m : Nat} (hm : m < 192) : oc_af (nI m) (m + 1) := by
  intro x hx
  rw [nI_ltI (by omega) (by omega)]
  omega
theorem oc_nx_b {c : Nat → Nat} {n b : Nat} {a : Int32} (hc : ∀ j, j < n → c j < 192) (hb : oc_af a b) : (oc_nx c a n = -2 ∧ ∀ m, b ≤ m → m < 192 → oc_in c m n = false) ∨ ∃ m : Nat, m < 192 ∧ b ≤ m ∧ oc_nx c a n = nI m ∧ oc_in c m n = true ∧ ∀ q, b ≤ q → q < m → oc_in c q n = false := by
  rcases oc_nx_spec (c := c) (a := a) n hc with ⟨e, hn⟩ | ⟨m, hm, e, hj, ha, hl⟩
  · refine Or.inl ⟨e, fun m h1 h2 => oc_in_f.mpr (fun j hj z => ?_)⟩
    subst z
    exact hn j hj ((hb _ h2).mpr h1)
  · refine Or.inr ⟨m, hm, (hb m hm).mp ha, e, oc_in_t.mpr hj, fun q h1 h2 => oc_in_f.mpr (fun j hj z => ?_)⟩
    subst z
    have w := hl j hj ((hb _ (by omega)).mpr h1)
    omega
def oc_bp (F : Nat → Prop) (S : Nat → Int32) (f s : Int32) : Prop := (f = -2 ∧ s = 0 ∧ ∀ q, ¬ F q) ∨ ∃ m : Nat, m < 192 ∧ f = nI m ∧ s = S m ∧ F m ∧ ∀ q, F q → S q < S m ∨ (S q = S m ∧ m ≤ q)
theorem oc_bp_t {F F' : Nat → Prop} {S : Nat → Int32} {f s : Int32} {x : Nat} (h : oc_bp F S f s) (hx : x < 192) (hF : ∀ q, F' q ↔ (F q ∨ q = x)) (hq : f < 0 ∨ s < S x ∨ (S x = s ∧ nI x < f)) : oc_bp F' S (nI x) (S x) := by
  refine Or.inr ⟨x, hx, rfl, rfl, (hF x).mpr (Or.inr rfl), fun q hqF => ?_⟩
  rcases (hF q).mp hqF with hq1 | hq1
  · rcases h with ⟨_, _, hn⟩ | ⟨m, hm, rfl, rfl, hFm, hl⟩
    · exact absurd hq1 (hn q)
    · have w := hl q hq1
      rcases hq with hq | hq | hq
      · exact absurd hq (nI_pos (by omega))
      · rw [Int32.lt_iff_toInt_lt] at hq
        rw [Int32.lt_iff_toInt_lt] at w ⊢
        left
        rcases w with w | w
        · omega
        · rw [w.1]; exact hq
      · rw [nI_ltI (by omega) (by omega)] at hq
        rw [hq.1]
        rcases w with w | w
        · exact Or.inl w
        · exact Or.inr ⟨w.1, by omega⟩
  · rw [hq1]
    exact Or.inr ⟨rfl, Nat.le_refl _⟩
theorem oc_bp_n {F F' : Nat → Prop} {S : Nat → Int32} {f s : Int32} {x : Nat} (h : oc_bp F S f s) (hx : x < 192) (hF : ∀ q, F' q ↔ (F q ∨ q = x)) (hq : ¬ (f < 0 ∨ s < S x ∨ (S x = s ∧ nI x < f))) : oc_bp F' S f s := by
  rcases h with ⟨hf, _, hn⟩ | ⟨m, hm, rfl, rfl, hFm, hl⟩
  · exact absurd (Or.inl (by rw [hf]; decide)) hq
  · refine Or.inr ⟨m, hm, rfl, rfl, (hF m).mpr (Or.inl hFm), fun q hqF => ?_⟩
    rcases (hF q).mp hqF with hq1 | hq1
    · exact hl q hq1
    · rw [hq1]
      by_cases e : S x = S m
      · refine Or.inr ⟨e, ?_⟩
        have w : ¬ nI x < nI m := fun w => hq (Or.inr (Or.inr ⟨e, w⟩))
        rw [nI_ltI (by omega) (by omega)] at w
        omega
      · have w : ¬ S m < S x := fun w => hq (Or.inr (Or.inl w))
        left
        rw [Int32.lt_iff_toInt_lt] at w ⊢
        have z : (S x).toInt ≠ (S m).toInt := fun z => e (Int32.toInt_inj.mp z)
        omega
theorem oc_bp_u {F F' : Nat → Prop} {S : Nat → Int32} {f s f' s' : Int32} (hF : ∀ q, F q ↔ F' q) (h : oc_bp F S f s) (h' : oc_bp F' S f' s') : f' = f := by
  rcases h with ⟨hf, _, hn⟩ | ⟨m, hm, rfl, rfl, hFm, hl⟩
  · rcases h' with ⟨hf', _, hn'⟩ | ⟨m', hm', _, _, hFm', hl'⟩
    · rw [hf, hf']
    · exact absurd ((hF m').mpr hFm') (hn m')
  · rcases h' with ⟨hf', _, hn'⟩ | ⟨m', hm', rfl, rfl, hFm', hl'⟩
    · exact absurd ((hF m).mp hFm) (hn' m)
    · have a := hl m' ((hF m').mpr hFm')
      have b := hl' m ((hF m).mp hFm)
      rw [Int32.lt_iff_toInt_lt] at a b
      rcases a with a | ⟨a1, a2⟩
      · rcases b with b | ⟨b1, _⟩
        · omega
        · rw [b1] at a; omega
      · rcases b with b | ⟨_, b2⟩
        · rw [a1] at b; omega
        · exact congrArg nI (by omega)
end
section
def oc_A (l a : Nat) : Nat := if l = 0 then a else if l = 1 then a / 2 else 0
def oc_B (l b : Nat) : Nat := if l = 0 then b else if l = 1 then b / 2 else if l = 2 then b / 3 else 0
def oc_C (l c : Nat) : Nat := if l = 0 then c else if l = 1 then c / 2 else if l = 2 then c / 4 else 0
def oc_cl (v p : Nat) : Nat := 48 * oc_A (v / 16) (p / 48) + 8 * oc_B (v / 4 % 4) (p / 8 % 6) + oc_C (v % 4) (p % 8)
theorem oc_A_lt {l a : Nat} (h : a < 4) : oc_A l a < 4 := by
  unfold oc_A
  split
  · exact h
  · split
    · omega
    · omega
theorem oc_B_lt {l b : Nat} (h : b < 6) : oc_B l b < 6 := by
  unfold oc_B
  split
  · exact h
  · split
    · omega
    · split
      · omega
      · omega
theorem oc_C_lt {l c : Nat} (h : c < 8) : oc_C l c < 8 := by
  unfold oc_C
  split
  · exact h
  · split
    · omega
    · split
      · omega
      · omega
theorem oc_cl_lt {v p : Nat} (h : p < 192) : oc_cl v p < 192 := by
  have a := oc_A_lt (l := v / 16) (a := p / 48) (by omega)
  have b := oc_B_lt (l := v / 4 % 4) (b := p / 8 % 6) (by omega)
  have c := oc_C_lt (l := v % 4) (c := p % 8) (by omega)
  unfold oc_cl
  omega
theorem oc_b68 {p : Nat} : p % 48 / 8 = p / 8 % 6 := by omega
theorem oc_d16 {v : Nat} (h : v < 192) : nI v / 16 = nI (v / 16) := pk_div (d := 16) (by omega) (by decide) (by decide)
theorem oc_d48 {v : Nat} (h : v < 192) : nI v / 48 = nI (v / 48) := pk_div (d := 48) (by omega) (by decide) (by decide)
theorem oc_d8 {v : Nat} (h : v < 192) : nI v / 8 = nI (v / 8) := pk_div (d := 8) (by omega) (by decide) (by decide)
theorem oc_d4 {v : Nat} (h : v < 192) : nI v / 4 = nI (v / 4) := pk_div (d := 4) (by omega) (by decide) (by decide)
theorem oc_d3 {v : Nat} (h : v < 192) : nI v / 3 = nI (v / 3) := pk_div (d := 3) (by omega) (by decide) (by decide)
theorem oc_d2 {v : Nat} (h : v < 192) : nI v / 2 = nI (v / 2) := pk_div (d := 2) (by omega) (by decide) (by decide)
theorem oc_r48 {v : Nat} (h : v < 192) : nI v - nI v / 48 * 48 = nI (v % 48) := pk_rem (d := 48) (by omega) (by decide) (by decide)
theorem oc_r8 {v : Nat} (h : v < 192) : nI v - nI v / 8 * 8 = nI (v % 8) := pk_rem (d := 8) (by omega) (by decide) (by decide)
theorem oc_r6 {v : Nat} (h : v < 192) : nI v - nI v / 6 * 6 = nI (v % 6) := pk_rem (d := 6) (by omega) (by decide) (by decide)
theorem oc_r4 {v : Nat} (h : v < 192) : nI v - nI v / 4 * 4 = nI (v % 4) := pk_rem (d := 4) (by omega) (by decide) (by decide)
theorem oc_mk (a b c : Nat) : (48 * nI a + 8 * nI b) + nI c = nI (48 * a + 8 * b + c) := by
  have h1 : (48 : Int32) * nI a = nI (48 * a) := pk_mul 48 a
  have h2 : (8 : Int32) * nI b = nI (8 * b) := pk_mul 8 b
  rw [h1, h2, nI_add, nI_add]
theorem oc_mk' (a b c : Nat) : 48 * nI a + (8 * nI b + nI c) = nI (48 * a + 8 * b + c) := by
  rw [← oc_mk, Int32.add_assoc]
def oc_fn (f g : Nat) : Prop := f / 16 ≤ g / 16 ∧ (f / 4 % 4 = 0 ∨ g / 4 % 4 = 3 ∨ f / 4 % 4 = g / 4 % 4) ∧ f % 4 ≤ g % 4
def oc_bad (f g p q : Nat) : Prop := oc_cl f q = oc_cl f p ∧ oc_cl g q ≠ oc_cl g p
theorem oc_tA : ∀ l : Fin 3, ∀ k : Fin 3, l.val ≤ k.val → ∀ a b : Fin 4, oc_A l.val a.val = oc_A l.val b.val → oc_A k.val a.val = oc_A k.val b.val := by decide +kernel
theorem oc_tB : ∀ l : Fin 4, ∀ k : Fin 4, (l.val = 0 ∨ k.val = 3 ∨ l.val = k.val) → ∀ a b : Fin 6, oc_B l.val a.val = oc_B l.val b.val → oc_B k.val a.val = oc_B k.val b.val := by decide +kernel
theorem oc_tC : ∀ l : Fin 4, ∀ k : Fin 4, l.val ≤ k.val → ∀ a b : Fin 8, oc_C l.val a.val = oc_C l.val b.val → oc_C k.val a.val = oc_C k.val b.val := by decide +kernel
theorem oc_uA : ∀ l : Fin 3, ∀ k : Fin 3, ¬ l.val ≤ k.val → ∃ a b : Fin 4, a.val < b.val ∧ oc_A l.val a.val = oc_A l.val b.val ∧ oc_A k.val a.val ≠ oc_A k.val b.val := by decide +kernel
theorem oc_uB : ∀ l : Fin 4, ∀ k : Fin 4, ¬ (l.val = 0 ∨ k.val = 3 ∨ l.val = k.val) → ∃ a b : Fin 6, a.val < b.val ∧ oc_B l.val a.val = oc_B l.val b.val ∧ oc_B k.val a.val ≠ oc_B k.val b.val := by decide +kernel
theorem oc_uC : ∀ l : Fin 4, ∀ k : Fin 4, ¬ l.val ≤ k.val → ∃ a b : Fin 8, a.val < b.val ∧ oc_C l.val a.val = oc_C l.val b.val ∧ oc_C k.val a.val ≠ oc_C k.val b.val := by decide +kernel
theorem oc_cl_inj {v p q : Nat} (hp : p < 192) (hq : q < 192) (h : oc_cl v q = oc_cl v p) : oc_A (v / 16) (q / 48) = oc_A (v / 16) (p / 48) ∧ oc_B (v / 4 % 4) (q / 8 % 6) = oc_B (v / 4 % 4) (p / 8 % 6) ∧ oc_C (v % 4) (q % 8) = oc_C (v % 4) (p % 8) := by
  have a1 := oc_A_lt (l := v / 16) (a := p / 48) (by omega)
  have b1 := oc_B_lt (l := v / 4 % 4) (b := p / 8 % 6) (by omega)
  have c1 := oc_C_lt (l := v % 4) (c := p % 8) (by omega)
  have a2 := oc_A_lt (l := v / 16) (a := q / 48) (by omega)
  have b2 := oc_B_lt (l := v / 4 % 4) (b := q / 8 % 6) (by omega)
  have c2 := oc_C_lt (l := v % 4) (c := q % 8) (by omega)
  unfold oc_cl at h
  generalize oc_A (v / 16) (q / 48) = x1 at *
  generalize oc_A (v / 16) (p / 48) = x2 at *
  generalize oc_B (v / 4 % 4) (q / 8 % 6) = y1 at *
  generalize oc_B (v / 4 % 4) (p / 8 % 6) = y2 at *
  generalize oc_C (v % 4) (q % 8) = z1 at *
  generalize oc_C (v % 4) (p % 8) = z2 at *
  omega
theorem oc_fn_t {f g : Nat} (hf : f < 48) (hg : g < 48) (h : oc_fn f g) {p q : Nat} (hp : p < 192) (hq : q < 192) : ¬ oc_bad f g p q := by
  rintro ⟨h1, h2⟩
  apply h2
  obtain ⟨ea, eb, ec⟩ := oc_cl_inj hp hq h1
  have wa := oc_tA ⟨f / 16, by omega⟩ ⟨g / 16, by omega⟩ h.1 ⟨q / 48, by omega⟩ ⟨p / 48, by omega⟩ ea
  have wb := oc_tB ⟨f / 4 % 4, by omega⟩ ⟨g / 4 % 4, by omega⟩ h.2.1 ⟨q / 8 % 6, by omega⟩ ⟨p / 8 % 6, by omega⟩ eb
  have wc := oc_tC ⟨f % 4, by omega⟩ ⟨g % 4, by omega⟩ h.2.2 ⟨q % 8, by omega⟩ ⟨p % 8, by omega⟩ ec
  dsimp only at wa wb wc
  unfold oc_cl
  rw [wa, wb, wc]
theorem oc_cl_abc {v a b c : Nat} (hb : b < 6) (hc : c < 8) : oc_cl v (48 * a + 8 * b + c) = 48 * oc_A (v / 16) a + 8 * oc_B (v / 4 % 4) b + oc_C (v % 4) c := by
  unfold oc_cl
  rw [show (48 * a + 8 * b + c) / 48 = a from by omega, show (48 * a + 8 * b + c) / 8 % 6 = b from by omega, show (48 * a + 8 * b + c) % 8 = c from by omega]
theorem oc_fn_f {f g : Nat} (hf : f < 48) (hg : g < 48) (h : ¬ oc_fn f g) : ∃ p q : Nat, p < 192 ∧ q < p ∧ oc_bad f g p q := by
  by_cases h1 : f / 16 ≤ g / 16
  · by_cases h2 : f / 4 % 4 = 0 ∨ g / 4 % 4 = 3 ∨ f / 4 % 4 = g / 4 % 4
    · have h3 : ¬ f % 4 ≤ g % 4 := fun z => h ⟨h1, h2, z⟩
      obtain ⟨a, b, hab, e1, e2⟩ := oc_uC ⟨f % 4, by omega⟩ ⟨g % 4, by omega⟩ h3
      have ha := a.isLt
      have hb := b.isLt
      refine ⟨48 * 0 + 8 * 0 + b.val, 48 * 0 + 8 * 0 + a.val, by omega, by omega, ?_, ?_⟩
      · rw [oc_cl_abc (by omega) ha, oc_cl_abc (by omega) hb]
        have e1' : oc_C (f % 4) a.val = oc_C (f % 4) b.val := e1
        omega
      · rw [oc_cl_abc (by omega) ha, oc_cl_abc (by omega) hb]
        have e2' : oc_C (g % 4) a.val ≠ oc_C (g % 4) b.val := e2
        omega
    · obtain ⟨a, b, hab, e1, e2⟩ := oc_uB ⟨f / 4 % 4, by omega⟩ ⟨g / 4 % 4, by omega⟩ h2
      have ha := a.isLt
      have hb := b.isLt
      refine ⟨48 * 0 + 8 * b.val + 0, 48 * 0 + 8 * a.val + 0, by omega, by omega, ?_, ?_⟩
      · rw [oc_cl_abc ha (by omega), oc_cl_abc hb (by omega)]
        have e1' : oc_B (f / 4 % 4) a.val = oc_B (f / 4 % 4) b.val := e1
        omega
      · rw [oc_cl_abc ha (by omega), oc_cl_abc hb (by omega)]
        have e2' : oc_B (g / 4 % 4) a.val ≠ oc_B (g / 4 % 4) b.val := e2
        omega
  · obtain ⟨a, b, hab, e1, e2⟩ := oc_uA ⟨f / 16, by omega⟩ ⟨g / 16, by omega⟩ h1
    have ha := a.isLt
    have hb := b.isLt
    refine ⟨48 * b.val + 8 * 0 + 0, 48 * a.val + 8 * 0 + 0, by omega, by omega, ?_, ?_⟩
    · rw [oc_cl_abc (by omega) (by omega), oc_cl_abc (by omega) (by omega)]
      have e1' : oc_A (f / 16) a.val = oc_A (f / 16) b.val := e1
      omega
    · rw [oc_cl_abc (by omega) (by omega), oc_cl_abc (by omega) (by omega)]
      have e2' : oc_A (g / 16) a.val ≠ oc_A (g / 16) b.val := e2
      omega
def oc_sm (c : Nat → Nat) (m : Nat → Int32) (x : Nat) : Nat → Int32
  | 0 => 0
  | n + 1 => if c n = x then oc_sm c m x n + m n else oc_sm c m x n
def oc_g (p : Nat → Int32) (j : Nat) : Nat := (p j).toNatClampNeg
def oc_c (v : Nat) (p : Nat → Int32) (j : Nat) : Nat := oc_cl v (oc_g p j)
def oc_ok (p : Nat → Int32) (n : Nat) : Prop := ∀ j, j < n → ∃ q : Nat, q < 192 ∧ p j = nI q
theorem oc_ok_g {p : Nat → Int32} {n j : Nat} (h : oc_ok p n) (hj : j < n) : oc_g p j < 192 ∧ p j = nI (oc_g p j) := by
  obtain ⟨q, hq, e⟩ := h j hj
  have w : oc_g p j = q := by
    unfold oc_g
    rw [e]
    exact nI_clamp (by omega)
  rw [w]
  exact ⟨hq, e⟩
theorem oc_ok_c {p : Nat → Int32} {n : Nat} (v : Nat) (h : oc_ok p n) : ∀ j, j < n → oc_c v p j < 192 := fun _ hj => oc_cl_lt (oc_ok_g h hj).1
theorem oc_ok_le {p : Nat → Int32} {n m : Nat} (h : oc_ok p n) (hm : m ≤ n) : oc_ok p m := fun j hj => h j (by omega)
theorem oc_ok_u {p : Nat → Int32} {n k q : Nat} {x : Int32} (h : oc_ok p n) (hq : q < 192) (hx : x = nI q) : oc_ok (upd p k x) n := by
  intro j hj
  by_cases e : j = k
  · subst e
    exact ⟨q, hq, by rw [pk_us, hx]⟩
  · rw [pk_un e]
    exact h j hj
theorem oc_ok_a {p : Nat → Int32} {n q : Nat} {x : Int32} (h : oc_ok p n) (hq : q < 192) (hx : x = nI q) : oc_ok (upd p n x) (n + 1) := by
  intro j hj
  by_cases e : j = n
  · subst e
    exact ⟨q, hq, by rw [pk_us, hx]⟩
  · rw [pk_un e]
    exact h j (by omega)
theorem oc_ok_s {p : Nat → Int32} {n i : Nat} (h : oc_ok p n) (hi : i + 1 < n) : oc_ok (upd p i (p (i + 1))) n := by
  obtain ⟨q, hq, e⟩ := h (i + 1) hi
  exact oc_ok_u h hq e
end
section
def oc_tt : Nat → Bool := fun _ => true
theorem oc_cs (x : Int32) {N : Nat} (hN : N < 2 ^ 31) : (x < 0 ∨ nI N ≤ x) ∨ ∃ j : Nat, j < N ∧ x = nI j := by
  rcases pk_ix x hN with h | h | h
  · exact Or.inl (Or.inl h)
  · exact Or.inl (Or.inr h)
  · exact Or.inr h
theorem oc_n47 {x : Int32} (h : nI 48 ≤ x) : ¬ x ≤ 47 := fun z => absurd (Int32.le_trans h z) (by decide)
theorem oc_n191 {x : Int32} (h : nI 192 ≤ x) : ¬ x ≤ 191 := fun z => absurd (Int32.le_trans h z) (by decide)
theorem oc_xV1 {post : Int32 → Prop} {v : Nat} (hv : v < 48) (h : post 1) : wpX_isView post (nI v) := br_f (nI_pos (by omega)) (br_f (nI_ge (b := 48) hv (by decide)) h)
theorem oc_xV0 {post : Int32 → Prop} {x : Int32} (hx : x < 0 ∨ nI 48 ≤ x) (h : post 0) : wpX_isView post x := by
  by_cases h0 : x < 0
  · exact br_t h0 h
  · exact br_f h0 (br_t (hx.resolve_left h0) h)
theorem oc_xC1 {post : Int32 → Prop} {v : Nat} (hv : v < 192) (h : post 1) : wpX_isCell post (nI v) := br_f (nI_pos (by omega)) (br_f (nI_ge (b := 192) hv (by decide)) h)
theorem oc_xC0 {post : Int32 → Prop} {x : Int32} (hx : x < 0 ∨ nI 192 ≤ x) (h : post 0) : wpX_isCell post x := by
  by_cases h0 : x < 0
  · exact br_t h0 h
  · exact br_f h0 (br_t (hx.resolve_left h0) h)
theorem oc_xP1 {post : Int32 → Prop} {v : Nat} (hv : v < 192) (h : post 1) : wpX_isPlace post (nI v) := br_f (nI_pos (by omega)) (br_f (nI_ge (b := 192) hv (by decide)) h)
theorem oc_xP0 {post : Int32 → Prop} {x : Int32} (hx : x < 0 ∨ nI 192 ≤ x) (h : post 0) : wpX_isPlace post x := by
  by_cases h0 : x < 0
  · exact br_t h0 h
  · exact br_f h0 (br_t (hx.resolve_left h0) h)
theorem oc_xF1 {post : Int32 → Prop} {n i : Nat} {p m : Nat → Int32} (hn : n ≤ 40) (hi : i < n) (h : post 1) : wpX_isFact post (nI n, p, m) (nI i) := br_f (nI_pos (by omega)) (br_f (nI_ge hi (by omega)) h)
theorem oc_xF0 {post : Int32 → Prop} {n : Nat} {p m : Nat → Int32} {x : Int32} (hx : x < 0 ∨ nI n ≤ x) (h : post 0) : wpX_isFact post (nI n, p, m) x := by
  by_cases h0 : x < 0
  · exact br_t h0 h
  · exact br_f h0 (br_t (hx.resolve_left h0) h)
theorem oc_xM1 {post : Int32 → Prop} {x : Int32} (h1 : ¬ x < -1000) (h2 : ¬ 1000 < x) (h : post 1) : wpX_isMeasure post x := br_f h1 (br_f h2 h)
theorem oc_xM0 {post : Int32 → Prop} {x : Int32} (hx : x < -1000 ∨ 1000 < x) (h : post 0) : wpX_isMeasure post x := by
  by_cases h0 : x < -1000
  · exact br_t h0 h
  · exact br_f h0 (br_t (hx.resolve_left h0) h)
theorem oc_yV1 {post : Int32 → Prop} {f : Int32} {p m : Nat → Int32} {v : Nat} (hv : v < 48) (h : post 0) : wpY_badView post (f, p, m) (nI v) := br_f (nI_pos (by omega)) (br_t (nI_le (b := 47) (by omega) (by decide)) h)
theorem oc_yV0 {post : Int32 → Prop} {f : Int32} {p m : Nat → Int32} {x : Int32} (hx : x < 0 ∨ nI 48 ≤ x) (h : post 1) : wpY_badView post (f, p, m) x := by
  by_cases h0 : x < 0
  · exact br_t h0 h
  · exact br_f h0 (br_f (oc_n47 (hx.resolve_left h0)) h)
theorem oc_yC1 {post : Int32 → Prop} {f : Int32} {p m : Nat → Int32} {v : Nat} (hv : v < 192) (h : post 0) : wpY_badCell post (f, p, m) (nI v) := br_f (nI_pos (by omega)) (br_t (nI_le (b := 191) (by omega) (by decide)) h)
theorem oc_yC0 {post : Int32 → Prop} {f : Int32} {p m : Nat → Int32} {x : Int32} (hx : x < 0 ∨ nI 192 ≤ x) (h : post 1) : wpY_badCell post (f, p, m) x := by
  by_cases h0 : x < 0
  · exact br_t h0 h
  · exact br_f h0 (br_f (oc_n191 (hx.resolve_left h0)) h)
theorem oc_yF1 {post : Int32 → Prop} {n i : Nat} {p m : Nat → Int32} (hn : n ≤ 40) (hi : i < n) (h : post 0) : wpY_badFact post (nI n, p, m) (nI i) := br_f (nI_pos (by omega)) (br_t (nI_lt hi (by omega)) h)
theorem oc_yF0 {post : Int32 → Prop} {n : Nat} {p m : Nat → Int32} {x : Int32} (hx : x < 0 ∨ nI n ≤ x) (h : post 1) : wpY_badFact post (nI n, p, m) x := by
  by_cases h0 : x < 0
  · exact br_t h0 h
  · exact br_f h0 (br_f (Int32.not_lt.mpr (hx.resolve_left h0)) h)
theorem oc_xlA {post : Int32 → Prop} {v : Nat} (hv : v < 192) (h : post (nI (v / 16))) : wpX_levelOfA post (nI v) := by
  unfold wpX_levelOfA
  rw [oc_d16 hv]
  exact ⟨by decide, h⟩
theorem oc_xlB {post : Int32 → Prop} {v : Nat} (hv : v < 192) (h : post (nI (v / 4 % 4))) : wpX_levelOfB post (nI v) := by
  unfold wpX_levelOfB
  rw [oc_d4 hv, oc_r4 (by omega)]
  exact ⟨by decide, by decide, h⟩
theorem oc_xlC {post : Int32 → Prop} {v : Nat} (hv : v < 192) (h : post (nI (v % 4))) : wpX_levelOfC post (nI v) := by
  unfold wpX_levelOfC
  rw [oc_r4 hv]
  exact ⟨by decide, h⟩
theorem oc_xA {post : Int32 → Prop} {l a : Nat} (hl : l < 4) (ha : a < 192) (h : post (nI (oc_A l a))) : wpX_seenAsA post (nI l) (nI a) := by
  unfold wpX_seenAsA
  refine pk_eq l 0 (fun e => ?_) (fun e => pk_eq l 1 (fun e1 => ⟨by decide, ?_⟩) (fun e1 => ?_))
  · have w : oc_A l a = a := by simp [oc_A, e]
    rw [w] at h
    exact h
  · have w : oc_A l a = a / 2 := by simp [oc_A, e1]
    rw [w] at h
    rw [oc_d2 ha]
    exact h
  · have w : oc_A l a = 0 := by simp [oc_A, e, e1]
    rw [w] at h
    exact h
theorem oc_xB {post : Int32 → Prop} {l a : Nat} (hl : l < 4) (ha : a < 192) (h : post (nI (oc_B l a))) : wpX_seenAsB post (nI l) (nI a) := by
  unfold wpX_seenAsB
  refine br_f (nI_pos (by omega)) (pk_lt 2 l (fun h2 => ?_) (fun h2 => pk_eq l 0 (fun e => ?_) (fun e => pk_eq l 1 (fun e1 => ⟨by decide, ?_⟩) (fun e1 => pk_eq l 2 (fun e2 => ⟨by decide, ?_⟩) (fun _ => trivial)))))
  · have w : oc_B l a = 0 := by
      have e : l = 3 := by omega
      simp [oc_B, e]
    rw [w] at h
    exact h
  · have w : oc_B l a = a := by simp [oc_B, e]
    rw [w] at h
    exact h
  · have w : oc_B l a = a / 2 := by simp [oc_B, e1]
    rw [w] at h
    rw [oc_d2 ha]
    exact h
  · have w : oc_B l a = a / 3 := by simp [oc_B, e2]
    rw [w] at h
    rw [oc_d3 ha]
    exact h
theorem oc_xC {post : Int32 → Prop} {l a : Nat} (hl : l < 4) (ha : a < 192) (h : post (nI (oc_C l a))) : wpX_seenAsC post (nI l) (nI a) := by
  unfold wpX_seenAsC
  refine br_f (nI_pos (by omega)) (pk_lt 2 l (fun h2 => ?_) (fun h2 => pk_eq l 0 (fun e => ?_) (fun e => pk_eq l 1 (fun e1 => ⟨by decide, ?_⟩) (fun e1 => pk_eq l 2 (fun e2 => ⟨by decide, ?_⟩) (fun _ => trivial)))))
  · have w : oc_C l a = 0 := by
      have e : l = 3 := by omega
      simp [oc_C, e]
    rw [w] at h
    exact h
  · have w : oc_C l a = a := by simp [oc_C, e]
    rw [w] at h
    exact h
  · have w : oc_C l a = a / 2 := by simp [oc_C, e1]
    rw [w] at h
    rw [oc_d2 ha]
    exact h
  · have w : oc_C l a = a / 4 := by simp [oc_C, e2]
    rw [w] at h
    rw [oc_d4 ha]
    exact h
theorem oc_yA {post : Int32 → Prop} {f : Int32} {p m : Nat → Int32} {l a : Nat} (hl : l < 4) (ha : a < 192) (h : post (nI (oc_A l a))) : wpY_seenA post (f, p, m) (nI l) (nI a) := by
  unfold wpY_seenA
  dsimp only
  refine pk_eq l 0 (fun e => ?_) (fun e => pk_eq l 1 (fun e1 => ⟨by decide, ?_⟩) (fun e1 => ?_))
  · have w : oc_A l a = a := by simp [oc_A, e]
    rw [w] at h
    exact h
  · have w : oc_A l a = a / 2 := by simp [oc_A, e1]
    rw [w] at h
    rw [oc_d2 ha]
    exact h
  · have w : oc_A l a = 0 := by simp [oc_A, e, e1]
    rw [w] at h
    exact h
theorem oc_yB {post : Int32 → Prop} {f : Int32} {p m : Nat → Int32} {l a : Nat} (hl : l < 4) (ha : a < 192) (h : post (nI (oc_B l a))) : wpY_seenB post (f, p, m) (nI l) (nI a) := by
  unfold wpY_seenB
  dsimp only
  refine pk_eq l 0 (fun e => ?_) (fun e => pk_eq l 1 (fun e1 => ⟨by decide, ?_⟩) (fun e1 => pk_eq l 2 (fun e2 => ⟨by decide, ?_⟩) (fun e2 => ?_)))
  · have w : oc_B l a = a := by simp [oc_B, e]
    rw [w] at h
    exact h
  · have w : oc_B l a = a / 2 := by simp [oc_B, e1]
    rw [w] at h
    rw [oc_d2 ha]
    exact h
  · have w : oc_B l a = a / 3 := by simp [oc_B, e2]
    rw [w] at h
    rw [oc_d3 ha]
    exact h
  · have w : oc_B l a = 0 := by simp [oc_B, e, e1, e2]
    rw [w] at h
    exact h
theorem oc_yC {post : Int32 → Prop} {f : Int32} {p m : Nat → Int32} {l a : Nat} (hl : l < 4) (ha : a < 192) (h : post (nI (oc_C l a))) : wpY_seenC post (f, p, m) (nI l) (nI a) := by
  unfold wpY_seenC
  dsimp only
  refine pk_eq l 0 (fun e => ?_) (fun e => pk_eq l 1 (fun e1 => ⟨by decide, ?_⟩) (fun e1 => pk_eq l 2 (fun e2 => ⟨by decide, ?_⟩) (fun e2 => ?_)))
  · have w : oc_C l a = a := by simp [oc_C, e]
    rw [w] at h
    exact h
  · have w : oc_C l a = a / 2 := by simp [oc_C, e1]
    rw [w] at h
    rw [oc_d2 ha]
    exact h
  · have w : oc_C l a = a / 4 := by simp [oc_C, e2]
    rw [w] at h
    rw [oc_d4 ha]
    exact h
  · have w : oc_C l a = 0 := by simp [oc_C, e, e1, e2]
    rw [w] at h
    exact h
theorem oc_xcell {post : Int32 → Prop} {v q : Nat} (hv : v < 48) (hq : q < 192) (h : post (nI (oc_cl v q))) : wpX_cellAt post (nI v) (nI q) := by
  unfold wpX_cellAt
  rw [oc_r48 hq, oc_r8 hq, oc_d48 hq, oc_d8 (v := q % 48) (by omega)]
  refine oc_xlA (by omega) ?_
  refine oc_xlB (by omega) ?_
  refine oc_xlC (by omega) ?_
  refine ⟨by decide, ?_⟩
  refine oc_xA (by omega) (by omega) ?_
  refine ⟨by decide, by decide, ?_⟩
  refine oc_xB (by omega) (by omega) ?_
  refine ⟨by decide, ?_⟩
  refine oc_xC (by omega) (by omega) ?_
  rw [oc_mk, oc_b68]
  exact h
theorem oc_yfall {post : Int32 → Prop} {f : Int32} {p m : Nat → Int32} {v q : Nat} (hv : v < 48) (hq : q < 192) (h : post (nI (oc_cl v q))) : wpY_fall post (f, p, m) (nI v) (nI q) := by
  unfold wpY_fall
  dsimp only
  rw [oc_r4 (v := v) (by omega), oc_d4 (v := v) (by omega), oc_r4 (v := v / 4) (by omega), oc_d16 (v := v) (by omega), oc_r8 hq, oc_d8 hq, oc_r6 (v := q / 8) (by omega), oc_d48 hq]
  refine ⟨by decide, by decide, ?_⟩
  refine oc_yA (by omega) (by omega) ?_
  refine ⟨by decide, by decide, by decide, by decide, ?_⟩
  refine oc_yB (by omega) (by omega) ?_
  refine ⟨by decide, by decide, ?_⟩
  refine oc_yC (by omega) (by omega) ?_
  rw [oc_mk]
  exact h
theorem oc_xcl {post : Int32 → Prop} {p : Nat → Int32} {v i n : Nat} (hv : v < 48) (ok : oc_ok p n) (hi : i < n) (h : post (nI (oc_c v p i))) : wpX_cellAt post (nI v) (p i) := by
  rw [(oc_ok_g ok hi).2]
  exact oc_xcell hv (oc_ok_g ok hi).1 h
theorem oc_ycl {post : Int32 → Prop} {f : Int32} {p m : Nat → Int32} {v i n : Nat} (hv : v < 48) (ok : oc_ok p n) (hi : i < n) (h : post (nI (oc_c v p i))) : wpY_fall post (f, p, m) (nI v) (p i) := by
  have e := (oc_ok_g ok hi).2
  have w : wpY_fall post (f, p, m) (nI v) (nI (oc_g p i)) := oc_yfall hv (oc_ok_g ok hi).1 h
  rw [← e] at w
  exact w
theorem oc_xapp {post : SX → Prop} {n : Nat} {p m : Nat → Int32} {x y : Int32} (hn : n < 40) (h : post (nI (n + 1), upd p n x, upd m n y)) : wpX_append post (nI n, p, m) x y := by
  unfold wpX_append
  dsimp only
  rw [nI_clamp (by omega)]
  exact ⟨vp_in_nI hn (by decide), nm_e ⟨vp_in_nI hn (by decide), nm_e (nm_r (nI_1 n) h)⟩⟩
theorem oc_yapp {post : SY → Prop} {n : Nat} {p m : Nat → Int32} {x y : Int32} (hn : n < 40) (h : post (nI (n + 1), upd p n x, upd m n y)) : wpY_append post (nI n, p, m) x y := by
  unfold wpY_append
  dsimp only
  rw [nI_clamp (by omega)]
  exact ⟨vp_in_nI hn (by decide), nm_e ⟨vp_in_nI hn (by decide), nm_e (nm_r (nI_1 n) h)⟩⟩
end
section
def oc_ct (c : Nat → Nat) (x : Nat) : Nat → Int32
  | 0 => 0
  | n + 1 => if c n = x then oc_ct c x n + 1 else oc_ct c x n
def oc_ls (c : Nat → Nat) (m : Nat → Int32) (x : Nat) : Nat → Int32
  | 0 => 10000
  | n + 1 => if c n = x ∧ ¬ oc_ls c m x n ≤ m n then m n else oc_ls c m x n
def oc_ms (c : Nat → Nat) (m : Nat → Int32) (x : Nat) : Nat → Int32
  | 0 => -10000
  | n + 1 => if c n = x ∧ ¬ m n ≤ oc_ms c m x n then m n else oc_ms c m x n
theorem oc_xtot5 {post : Int32 → Prop} {v x n : Nat} {p m : Nat → Int32} (hv : v < 48) (hx : x < 192) (hn : n ≤ 40) (ok : oc_ok p n) (h : post (oc_sm (oc_c v p) m x n)) : ∀ d i : Nat, i + d = n → wX_total_5 post (nI v) (nI x) (nI n) p m (d + 1) (oc_sm (oc_c v p) m x i) (nI i) := by
  intro d
  induction d with
  | zero =>
    intro i hi
    have e : i = n := by omega
    subst e
    exact br_t (nI_le (Nat.le_refl _) (by omega)) h
  | succ d ih =>
    intro i hi
    have hc := oc_ok_c v ok i (by omega)
    have ih' := ih (i + 1) (by omega)
    rw [oc_sm] at ih'
    refine br_f (nI_ge (by omega) (by omega)) ⟨vp_in_nI (by omega) (by omega), ?_⟩
    rw [nI_clamp (by omega)]
    refine oc_xcl hv ok (show i < n by omega) ?_
    refine pk_eq (oc_c v p i) x (fun e => ⟨vp_in_nI (by omega) (by omega), nm_e (nm_r (nI_1 i) ?_)⟩) (fun e => nm_r (nI_1 i) ?_)
    · rw [if_pos e] at ih'
      exact ih'
    · rw [if_neg e] at ih'
      exact ih'
theorem oc_xct {post : Int32 → Prop} {v x n : Nat} {p m : Nat → Int32} (hv : v < 48) (hx : x < 192) (hn : n ≤ 40) (ok : oc_ok p n) (h : post (oc_ct (oc_c v p) x n)) : ∀ d i : Nat, i + d = n → wX_count_24 post (nI v) (nI x) (nI n) p m (d + 1) (oc_ct (oc_c v p) x i) (nI i) := by
  intro d
  induction d with
  | zero =>
    intro i hi
    have e : i = n := by omega
    subst e
    exact br_t (nI_le (Nat.le_refl _) (by omega)) h
  | succ d ih =>
    intro i hi
    have hc := oc_ok_c v ok i (by omega)
    have ih' := ih (i + 1) (by omega)
    rw [oc_ct] at ih'
    refine br_f (nI_ge (by omega) (by omega)) ⟨vp_in_nI (by omega) (by omega), ?_⟩
    rw [nI_clamp (by omega)]
    refine oc_xcl hv ok (show i < n by omega) ?_
    refine pk_eq (oc_c v p i) x (fun e => nm_e (nm_r (nI_1 i) ?_)) (fun e => nm_r (nI_1 i) ?_)
    · rw [if_pos e] at ih'
      exact ih'
    · rw [if_neg e] at ih'
      exact ih'
theorem oc_xls {post : Int32 → Prop} {v x n : Nat} {p m : Nat → Int32} (hv : v < 48) (hx : x < 192) (hn : n ≤ 40) (ok : oc_ok p n) (h : post (oc_ls (oc_c v p) m x n)) : ∀ d i : Nat, i + d = n → wX_least_25 post (nI v) (nI x) (nI n) p m (d + 1) (oc_ls (oc_c v p) m x i) (nI i) := by
  intro d
  induction d with
  | zero =>
    intro i hi
    have e : i = n := by omega
    subst e
    exact br_t (nI_le (Nat.le_refl _) (by omega)) h
  | succ d ih =>
    intro i hi
    have hc := oc_ok_c v ok i (by omega)
    have ih' := ih (i + 1) (by omega)
    rw [oc_ls] at ih'
    refine br_f (nI_ge (by omega) (by omega)) ⟨vp_in_nI (by omega) (by omega), ?_⟩
    rw [nI_clamp (by omega)]
    refine oc_xcl hv ok (show i < n by omega) ?_
    refine pk_eq (oc_c v p i) x (fun e => ⟨vp_in_nI (by omega) (by omega), br_c (fun g => nm_r (nI_1 i) ?_) (fun g => ⟨vp_in_nI (by omega) (by omega), nm_e (nm_r (nI_1 i) ?_)⟩)⟩) (fun e => nm_r (nI_1 i) ?_)
    · have z : ¬ (oc_c v p i = x ∧ ¬ oc_ls (oc_c v p) m x i ≤ m i) := fun z => z.2 g
      rw [if_neg z] at ih'
      exact ih'
    · rw [if_pos ⟨e, g⟩] at ih'
      exact ih'
    · have z : ¬ (oc_c v p i = x ∧ ¬ oc_ls (oc_c v p) m x i ≤ m i) := fun z => e z.1
      rw [if_neg z] at ih'
      exact ih'
theorem oc_xms {post : Int32 → Prop} {v x n : Nat} {p m : Nat → Int32} (hv : v < 48) (hx : x < 192) (hn : n ≤ 40) (ok : oc_ok p n) (h : post (oc_ms (oc_c v p) m x n)) : ∀ d i : Nat, i + d = n → wX_most_25 post (nI v) (nI x) (nI n) p m (d + 1) (oc_ms (oc_c v p) m x i) (nI i) := by
  intro d
  induction d with
  | zero =>
    intro i hi
    have e : i = n := by omega
    subst e
    exact br_t (nI_le (Nat.le_refl _) (by omega)) h
  | succ d ih =>
    intro i hi
    have hc := oc_ok_c v ok i (by omega)
    have ih' := ih (i + 1) (by omega)
    rw [oc_ms] at ih'
    refine br_f (nI_ge (by omega) (by omega)) ⟨vp_in_nI (by omega) (by omega), ?_⟩
    rw [nI_clamp (by omega)]
    refine oc_xcl hv ok (show i < n by omega) ?_
    refine pk_eq (oc_c v p i) x (fun e => ⟨vp_in_nI (by omega) (by omega), br_c (fun g => nm_r (nI_1 i) ?_) (fun g => ⟨vp_in_nI (by omega) (by omega), nm_e (nm_r (nI_1 i) ?_)⟩)⟩) (fun e => nm_r (nI_1 i) ?_)
    · have z : ¬ (oc_c v p i = x ∧ ¬ m i ≤ oc_ms (oc_c v p) m x i) := fun z => z.2 g
      rw [if_neg z] at ih'
      exact ih'
    · rw [if_pos ⟨e, g⟩] at ih'
      exact ih'
    · have z : ¬ (oc_c v p i = x ∧ ¬ m i ≤ oc_ms (oc_c v p) m x i) := fun z => e z.1
      rw [if_neg z] at ih'
      exact ih'
theorem oc_xnx {post : Int32 → Prop} {v n : Nat} {a : Int32} {p m : Nat → Int32} (hv : v < 48) (hn : n ≤ 40) (ok : oc_ok p n) (h : post (oc_nx (oc_c v p) a n)) : ∀ d i : Nat, i + d = n → wX_next_15 post (nI v) a (nI n) p m (d + 1) (oc_nx (oc_c v p) a i) (nI i) := by
  intro d
  induction d with
  | zero =>
    intro i hi
    have e : i = n := by omega
    subst e
    exact br_t (nI_le (Nat.le_refl _) (by omega)) h
  | succ d ih =>
    intro i hi
    have hc := oc_ok_c v ok i (by omega)
    have ih' := ih (i + 1) (by omega)
    rw [oc_nx] at ih'
    have it : (a < nI (oc_c v p i) ∧ (oc_nx (oc_c v p) a i < 0 ∨ nI (oc_c v p i) < oc_nx (oc_c v p) a i)) → wX_next_15 post (nI v) a (nI n) p m (d + 1) (nI (oc_c v p i)) (nI (i + 1)) := fun z => by
      rw [if_pos z] at ih'
      exact ih'
    have ie : ¬ (a < nI (oc_c v p i) ∧ (oc_nx (oc_c v p) a i < 0 ∨ nI (oc_c v p i) < oc_nx (oc_c v p) a i)) → wX_next_15 post (nI v) a (nI n) p m (d + 1) (oc_nx (oc_c v p) a i) (nI (i + 1)) := fun z => by
      rw [if_neg z] at ih'
      exact ih'
    refine br_f (nI_ge (by omega) (by omega)) ⟨vp_in_nI (by omega) (by omega), ?_⟩
    rw [nI_clamp (by omega)]
    refine oc_xcl hv ok (show i < n by omega) ?_
    refine br_c (fun h1 => nm_r (nI_1 i) (ie ?_)) (fun h1 => br_c (fun h2 => nm_r (nI_1 i) (it ⟨Int32.not_le.mp h1, Or.inl h2⟩)) (fun h2 => br_c (fun h3 => nm_r (nI_1 i) (ie ?_)) (fun h3 => nm_r (nI_1 i) (it ⟨Int32.not_le.mp h1, Or.inr (Int32.not_le.mp h3)⟩))))
    · exact fun z => absurd z.1 (Int32.not_lt.mpr h1)
    · rintro ⟨_, z | z⟩
      · exact h2 z
      · exact absurd z (Int32.not_lt.mpr h3)
theorem oc_ytot5 {post : Int32 → Prop} {v x n : Nat} {p m : Nat → Int32} (hv : v < 48) (hx : x < 192) (hn : n ≤ 40) (ok : oc_ok p n) (h : post (oc_sm (oc_c v p) m x n)) : ∀ d i : Nat, i + d = n → wY_sum_23 post (nI v) (nI x) (nI n) p m (d + 1) (oc_sm (oc_c v p) m x i) (nI i) := by
  intro d
  induction d with
  | zero =>
    intro i hi
    have e : i = n := by omega
    subst e
    exact br_t (nI_le (Nat.le_refl _) (by omega)) h
  | succ d ih =>
    intro i hi
    have hc := oc_ok_c v ok i (by omega)
    have ih' := ih (i + 1) (by omega)
    rw [oc_sm] at ih'
    refine br_f (nI_ge (by omega) (by omega)) ⟨vp_in_nI (by omega) (by omega), ?_⟩
    rw [nI_clamp (by omega)]
    refine oc_ycl hv ok (show i < n by omega) ?_
    refine pk_eq (oc_c v p i) x (fun e => ⟨vp_in_nI (by omega) (by omega), nm_e (nm_r (nI_1 i) ?_)⟩) (fun e => nm_r (nI_1 i) ?_)
    · rw [if_pos e] at ih'
      exact ih'
    · rw [if_neg e] at ih'
      exact ih'
theorem oc_yct {post : Int32 → Prop} {v x n : Nat} {p m : Nat → Int32} (hv : v < 48) (hx : x < 192) (hn : n ≤ 40) (ok : oc_ok p n) (h : post (oc_ct (oc_c v p) x n)) : ∀ d i : Nat, i + d = n → wY_count_26 post (nI v) (nI x) (nI n) p m (d + 1) (oc_ct (oc_c v p) x i) (nI i) := by
  intro d
  induction d with
  | zero =>
    intro i hi
    have e : i = n := by omega
    subst e
    exact br_t (nI_le (Nat.le_refl _) (by omega)) h
  | succ d ih =>
    intro i hi
    have hc := oc_ok_c v ok i (by omega)
    have ih' := ih (i + 1) (by omega)
    rw [oc_ct] at ih'
    refine br_f (nI_ge (by omega) (by omega)) ⟨vp_in_nI (by omega) (by omega), ?_⟩
    rw [nI_clamp (by omega)]
    refine oc_ycl hv ok (show i < n by omega) ?_
    refine pk_eq (oc_c v p i) x (fun e => nm_e (nm_r (nI_1 i) ?_)) (fun e => nm_r (nI_1 i) ?_)
    · rw [if_pos e] at ih'
      exact ih'
    · rw [if_neg e] at ih'
      exact ih'
theorem oc_yls {post : Int32 → Prop} {v x n : Nat} {p m : Nat → Int32} (hv : v < 48) (hx : x < 192) (hn : n ≤ 40) (ok : oc_ok p n) (h : post (oc_ls (oc_c v p) m x n)) : ∀ d i : Nat, i + d = n → wY_least_27 post (nI v) (nI x) (nI n) p m (d + 1) (oc_ls (oc_c v p) m x i) (nI i) := by
  intro d
  induction d with
  | zero =>
    intro i hi
    have e : i = n := by omega
    subst e
    exact br_t (nI_le (Nat.le_refl _) (by omega)) h
  | succ d ih =>
    intro i hi
    have hc := oc_ok_c v ok i (by omega)
    have ih' := ih (i + 1) (by omega)
    rw [oc_ls] at ih'
    refine br_f (nI_ge (by omega) (by omega)) ⟨vp_in_nI (by omega) (by omega), ?_⟩
    rw [nI_clamp (by omega)]
    refine oc_ycl hv ok (show i < n by omega) ?_
    refine pk_eq (oc_c v p i) x (fun e => ⟨vp_in_nI (by omega) (by omega), br_c (fun g => nm_r (nI_1 i) ?_) (fun g => ⟨vp_in_nI (by omega) (by omega), nm_e (nm_r (nI_1 i) ?_)⟩)⟩) (fun e => nm_r (nI_1 i) ?_)
    · have z : ¬ (oc_c v p i = x ∧ ¬ oc_ls (oc_c v p) m x i ≤ m i) := fun z => z.2 g
      rw [if_neg z] at ih'
      exact ih'
    · rw [if_pos ⟨e, g⟩] at ih'
      exact ih'
    · have z : ¬ (oc_c v p i = x ∧ ¬ oc_ls (oc_c v p) m x i ≤ m i) := fun z => e z.1
      rw [if_neg z] at ih'
      exact ih'
theorem oc_yms {post : Int32 → Prop} {v x n : Nat} {p m : Nat → Int32} (hv : v < 48) (hx : x < 192) (hn : n ≤ 40) (ok : oc_ok p n) (h : post (oc_ms (oc_c v p) m x n)) : ∀ d i : Nat, i + d = n → wY_most_27 post (nI v) (nI x) (nI n) p m (d + 1) (oc_ms (oc_c v p) m x i) (nI i) := by
  intro d
  induction d with
  | zero =>
    intro i hi
    have e : i = n := by omega
    subst e
    exact br_t (nI_le (Nat.le_refl _) (by omega)) h
  | succ d ih =>
    intro i hi
    have hc := oc_ok_c v ok i (by omega)
    have ih' := ih (i + 1) (by omega)
    rw [oc_ms] at ih'
    refine br_f (nI_ge (by omega) (by omega)) ⟨vp_in_nI (by omega) (by omega), ?_⟩
    rw [nI_clamp (by omega)]
    refine oc_ycl hv ok (show i < n by omega) ?_
    refine pk_eq (oc_c v p i) x (fun e => ⟨vp_in_nI (by omega) (by omega), br_c (fun g => nm_r (nI_1 i) ?_) (fun g => ⟨vp_in_nI (by omega) (by omega), nm_e (nm_r (nI_1 i) ?_)⟩)⟩) (fun e => nm_r (nI_1 i) ?_)
    · have z : ¬ (oc_c v p i = x ∧ ¬ m i ≤ oc_ms (oc_c v p) m x i) := fun z => z.2 g
      rw [if_neg z] at ih'
      exact ih'
    · rw [if_pos ⟨e, g⟩] at ih'
      exact ih'
    · have z : ¬ (oc_c v p i = x ∧ ¬ m i ≤ oc_ms (oc_c v p) m x i) := fun z => e z.1
      rw [if_neg z] at ih'
      exact ih'
theorem oc_ynx {post : Int32 → Prop} {v n : Nat} {a : Int32} {p m : Nat → Int32} (hv : v < 48) (hn : n ≤ 40) (ok : oc_ok p n) (h : post (oc_nx (oc_c v p) a n)) : ∀ d i : Nat, i + d = n → wY_next_16 post (nI v) a (nI n) p m (d + 1) (oc_nx (oc_c v p) a i) (nI i) := by
  intro d
  induction d with
  | zero =>
    intro i hi
    have e : i = n := by omega
    subst e
    exact br_t (nI_le (Nat.le_refl _) (by omega)) h
  | succ d ih =>
    intro i hi
    have hc := oc_ok_c v ok i (by omega)
    have ih' := ih (i + 1) (by omega)
    rw [oc_nx] at ih'
    have it : (a < nI (oc_c v p i) ∧ (oc_nx (oc_c v p) a i < 0 ∨ nI (oc_c v p i) < oc_nx (oc_c v p) a i)) → wY_next_16 post (nI v) a (nI n) p m (d + 1) (nI (oc_c v p i)) (nI (i + 1)) := fun z => by
      rw [if_pos z] at ih'
      exact ih'
    have ie : ¬ (a < nI (oc_c v p i) ∧ (oc_nx (oc_c v p) a i < 0 ∨ nI (oc_c v p i) < oc_nx (oc_c v p) a i)) → wY_next_16 post (nI v) a (nI n) p m (d + 1) (oc_nx (oc_c v p) a i) (nI (i + 1)) := fun z => by
      rw [if_neg z] at ih'
      exact ih'
    refine br_f (nI_ge (by omega) (by omega)) ⟨vp_in_nI (by omega) (by omega), ?_⟩
    rw [nI_clamp (by omega)]
    refine oc_ycl hv ok (show i < n by omega) ?_
    refine br_c (fun h1 => nm_r (nI_1 i) (ie ?_)) (fun h1 => br_c (fun h2 => nm_r (nI_1 i) (it ⟨Int32.not_le.mp h1, Or.inl h2⟩)) (fun h2 => br_c (fun h3 => nm_r (nI_1 i) (ie ?_)) (fun h3 => nm_r (nI_1 i) (it ⟨Int32.not_le.mp h1, Or.inr (Int32.not_le.mp h3)⟩))))
    · exact fun z => absurd z.1 (Int32.not_lt.mpr h1)
    · rintro ⟨_, z | z⟩
      · exact h2 z
      · exact absurd z (Int32.not_lt.mpr h3)
theorem oc_xtot {post : Int32 → Prop} {v x n : Nat} {p m : Nat → Int32} (hv : v < 48) (hx : x < 192) (hn : n ≤ 40) (ok : oc_ok p n) (h : post (oc_sm (oc_c v p) m x n)) : wpX_total post (nI n, p, m) (nI v) (nI x) := by
  show ∃ n5 : Nat, wX_total_5 post (nI v) (nI x) (nI n) p m n5 0 0
  exact ⟨n + 1, oc_xtot5 hv hx hn ok h n 0 (by omega)⟩
theorem oc_ysum {post : Int32 → Prop} {v x n : Nat} {p m : Nat → Int32} (hv : v < 48) (hx : x < 192) (hn : n ≤ 40) (ok : oc_ok p n) (h : post (oc_sm (oc_c v p) m x n)) : wpY_sum post (nI n, p, m) (nI v) (nI x) := by
  unfold wpY_sum
  dsimp only
  refine oc_yV1 hv ?_
  refine br_t rfl ?_
  refine oc_yC1 hx ?_
  refine br_t rfl ?_
  exact ⟨n + 1, oc_ytot5 hv hx hn ok h n 0 (by omega)⟩
theorem oc_xnext {post : Int32 → Prop} {v n : Nat} {a : Int32} {p m : Nat → Int32} (hv : v < 48) (hn : n ≤ 40) (ok : oc_ok p n) (h : post (oc_nx (oc_c v p) a n)) : wpX_next post (nI n, p, m) (nI v) a := by
  unfold wpX_next
  dsimp only
  refine oc_xV1 hv ?_
  refine br_f (by decide) ?_
  exact ⟨n + 1, oc_xnx hv hn ok h n 0 (by omega)⟩
theorem oc_ynext {post : Int32 → Prop} {v n : Nat} {a : Int32} {p m : Nat → Int32} (hv : v < 48) (hn : n ≤ 40) (ok : oc_ok p n) (h : post (oc_nx (oc_c v p) a n)) : wpY_next post (nI n, p, m) (nI v) a := by
  unfold wpY_next
  dsimp only
  refine oc_yV1 hv ?_
  refine br_t rfl ?_
  exact ⟨n + 1, oc_ynx hv hn ok h n 0 (by omega)⟩
end
section
theorem oc_xfi14 {post : Int32 → Prop} {v k x n : Nat} {p m : Nat → Int32} (hv : v < 48) (hk : k < n) (hx : x < 192) (hn : n ≤ 40) (ok : oc_ok p n) (h1 : oc_in (oc_c v p) x k = false → post 1) (h0 : oc_in (oc_c v p) x k = true → post 0) : ∀ d i : Nat, i + d = k → oc_in (oc_c v p) x i = false → wX_isFirstInCell_14 post (nI v) (nI k) (nI x) (nI n) p m (d + 1) (nI i) := by
  intro d
  induction d with
  | zero =>
    intro i hi hf
    have e : i = k := by omega
    subst e
    exact br_t (nI_le (Nat.le_refl _) (by omega)) (h1 hf)
  | succ d ih =>
    intro i hi hf
    have hc := oc_ok_c v ok i (by omega)
    refine br_f (nI_ge (by omega) (by omega)) ⟨vp_in_nI (by omega) (by omega), ?_⟩
    rw [nI_clamp (by omega)]
    refine oc_xcl hv ok (show i < n by omega) ?_
    refine pk_eq (oc_c v p i) x (fun e => h0 (oc_in_t.mpr ⟨i, by omega, e⟩)) (fun e => nm_r (nI_1 i) (ih (i + 1) (by omega) ?_))
    rw [oc_in, hf, beq_false_of_ne e]
    rfl
theorem oc_xfi {post : Int32 → Prop} {v k n : Nat} {p m : Nat → Int32} (hv : v < 48) (hk : k < n) (hn : n ≤ 40) (ok : oc_ok p n) (h1 : oc_in (oc_c v p) (oc_c v p k) k = false → post 1) (h0 : oc_in (oc_c v p) (oc_c v p k) k = true → post 0) : wpX_isFirstInCell post (nI n, p, m) (nI v) (nI k) := by
  unfold wpX_isFirstInCell
  dsimp only
  rw [nI_clamp (by omega)]
  refine ⟨vp_in_nI (by omega) (by decide), ?_⟩
  refine oc_xcl hv ok hk ?_
  exact ⟨k + 1, oc_xfi14 hv hk (oc_ok_c v ok k hk) hn ok h1 h0 k 0 (by omega) rfl⟩
theorem oc_xfc4 {post : Int32 → Prop} {v n : Nat} {p m : Nat → Int32} (hv : v < 48) (hn : n ≤ 40) (ok : oc_ok p n) (h : post (nI (oc_fc (oc_c v p) oc_tt n))) : ∀ d i : Nat, i + d = n → wX_fullCells_4 post (nI v) (nI n) p m (d + 1) (nI (oc_fc (oc_c v p) oc_tt i)) (nI i) := by
  intro d
  induction d with
  | zero =>
    intro i hi
    have e : i = n := by omega
    subst e
    exact br_t (nI_le (Nat.le_refl _) (by omega)) h
  | succ d ih =>
    intro i hi
    have ih' := ih (i + 1) (by omega)
    rw [oc_fc] at ih'
    refine br_f (nI_ge (by omega) (by omega)) ?_
    refine oc_xfi hv (by omega) hn ok (fun hf => ?_) (fun hf => ?_)
    · refine br_f (by decide) (nm_r (nI_1 _) (nm_r (nI_1 i) ?_))
      rw [if_pos ⟨hf, rfl⟩] at ih'
      exact ih'
    · refine br_t rfl (nm_r (nI_1 i) ?_)
      have z : ¬ (oc_in (oc_c v p) (oc_c v p i) i = false ∧ oc_tt (oc_c v p i) = true) := fun z => by
        rw [hf] at z
        exact absurd z.1 (by decide)
      rw [if_neg z] at ih'
      exact ih'
theorem oc_xfull {post : Int32 → Prop} {v n : Nat} {p m : Nat → Int32} (hv : v < 48) (hn : n ≤ 40) (ok : oc_ok p n) (h : post (nI (oc_fc (oc_c v p) oc_tt n))) : wpX_fullCells post (nI n, p, m) (nI v) := by
  show ∃ n4 : Nat, wX_fullCells_4 post (nI v) (nI n) p m n4 0 0
  exact ⟨n + 1, oc_xfc4 hv hn ok h n 0 (by omega)⟩
theorem oc_yfull19 {post : Int32 → Prop} {v n : Nat} {p m : Nat → Int32} (hv : v < 48) (hn : n ≤ 40) (ok : oc_ok p n) : ∀ (d b k : Nat) (a : Int32), b ≤ 192 → 192 - b ≤ d → k ≤ b → oc_af a b → post (nI (k + oc_D (oc_e (oc_c v p) oc_tt n) (192 - b) b)) → wY_full_19 post (nI v) (nI n) p m (d + 1) (nI k) (oc_nx (oc_c v p) a n) := by
  intro d
  induction d with
  | zero =>
    intro b k a hb hd hk ha h
    rcases oc_nx_b (oc_ok_c v ok) ha with ⟨e, hno⟩ | ⟨q, hq, hbq, e, hin, hno⟩
    · rw [e]
      have z : oc_D (oc_e (oc_c v p) oc_tt n) (192 - b) b = 0 := oc_D_0 (fun w h1 h2 => by
        unfold oc_e
        rw [hno w h1 (by omega)]
        rfl)
      rw [z] at h
      exact br_t (by decide) h
    · omega
  | succ d ih =>
    intro b k a hb hd hk ha h
    rcases oc_nx_b (oc_ok_c v ok) ha with ⟨e, hno⟩ | ⟨q, hq, hbq, e, hin, hno⟩
    · rw [e]
      have z : oc_D (oc_e (oc_c v p) oc_tt n) (192 - b) b = 0 := oc_D_0 (fun w h1 h2 => by
        unfold oc_e
        rw [hno w h1 (by omega)]
        rfl)
      rw [z] at h
      exact br_t (by decide) h
    · rw [e]
      have z := oc_D_step (e := oc_e (oc_c v p) oc_tt n) hbq hq (fun w h1 h2 => by
        unfold oc_e
        rw [hno w h1 h2]
        rfl)
      have t : oc_e (oc_c v p) oc_tt n q = true := by
        unfold oc_e
        rw [hin]
        rfl
      rw [z, if_pos t, ← Nat.add_assoc] at h
      refine br_f (nI_pos (by omega)) (br_f (nI_ge (b := 192) (by omega) (by decide)) (nm_r (nI_1 k) ?_))
      refine oc_ynext hv hn ok ?_
      exact ih (q + 1) (k + 1) (nI q) (by omega) (by omega) (by omega) (oc_af_s hq) h
theorem oc_yfull {post : Int32 → Prop} {v n : Nat} {p m : Nat → Int32} (hv : v < 48) (hn : n ≤ 40) (ok : oc_ok p n) (h : post (nI (oc_fc (oc_c v p) oc_tt n))) : wpY_full post (nI n, p, m) (nI v) := by
  unfold wpY_full
  dsimp only
  rw [oc_fc_D n (oc_ok_c v ok)] at h
  refine oc_yV1 hv ?_
  refine br_t rfl ?_
  refine oc_ynext hv hn ok ?_
  refine ⟨193, oc_yfull19 hv hn ok 192 0 0 (-1) (by omega) (by omega) (by omega) oc_af_0 ?_⟩
  rw [Nat.zero_add]
  exact h
def oc_th (c : Nat → Nat) (m : Nat → Int32) (n : Nat) (b : Int32) (q : Nat) : Bool := decide (b ≤ oc_sm c m q n)
theorem oc_xhv14 {post : Int32 → Prop} {v n : Nat} {b : Int32} {p m : Nat → Int32} (hv : v < 48) (hn : n ≤ 40) (ok : oc_ok p n) (h : post (nI (oc_fc (oc_c v p) (oc_th (oc_c v p) m n b) n))) : ∀ d i : Nat, i + d = n → wX_having_14 post (nI v) b (nI n) p m (d + 1) (nI (oc_fc (oc_c v p) (oc_th (oc_c v p) m n b) i)) (nI i) := by
  intro d
  induction d with
  | zero =>
    intro i hi
    have e : i = n := by omega
    subst e
    exact br_t (nI_le (Nat.le_refl _) (by omega)) h
  | succ d ih =>
    intro i hi
    have hc := oc_ok_c v ok i (by omega)
    have ih' := ih (i + 1) (by omega)
    rw [oc_fc] at ih'
    refine br_f (nI_ge (by omega) (by omega)) ⟨vp_in_nI (by omega) (by omega), ?_⟩
    rw [nI_clamp (by omega)]
    refine oc_xcl hv ok (show i < n by omega) ?_
    refine oc_xfi hv (by omega) hn ok (fun hf => ?_) (fun hf => ?_)
    · refine br_f (by decide) ?_
      refine oc_xtot hv hc hn ok ?_
      refine br_c (fun hb => nm_r (nI_1 i) ?_) (fun hb => nm_r (nI_1 _) (nm_r (nI_1 i) ?_))
      · have z : ¬ (oc_in (oc_c v p) (oc_c v p i) i = false ∧ oc_th (oc_c v p) m n b (oc_c v p i) = true) := fun z => absurd hb (Int32.not_lt.mpr (of_decide_eq_true z.2))
        rw [if_neg z] at ih'
        exact ih'
      · have z : oc_th (oc_c v p) m n b (oc_c v p i) = true := decide_eq_true (Int32.not_lt.mp hb)
        rw [if_pos ⟨hf, z⟩] at ih'
        exact ih'
    · refine br_t rfl (nm_r (nI_1 i) ?_)
      have z : ¬ (oc_in (oc_c v p) (oc_c v p i) i = false ∧ oc_th (oc_c v p) m n b (oc_c v p i) = true) := fun z => by
        rw [hf] at z
        exact absurd z.1 (by decide)
      rw [if_neg z] at ih'
      exact ih'
theorem oc_yhv43 {post : Int32 → Prop} {J : Int32 → Int32 → Prop} {v n q : Nat} {b x : Int32} {p m : Nat → Int32} (hv : v < 48) (hn : n ≤ 40) (ok : oc_ok p n) (h : J x (oc_nx (oc_c v p) (nI q) n)) : wY_having_43 post J (nI v) b x (nI q) (nI n) p m := by
  unfold wY_having_43
  exact oc_ynext hv hn ok h
theorem oc_yhv20 {post : Int32 → Prop} {v n : Nat} {y : Int32} {p m : Nat → Int32} (hv : v < 48) (hn : n ≤ 40) (ok : oc_ok p n) : ∀ (d b k : Nat) (a : Int32), b ≤ 192 → 192 - b ≤ d → oc_af a b → post (nI (k + oc_D (oc_e (oc_c v p) (oc_th (oc_c v p) m n y) n) (192 - b) b)) → wY_having_20 post (nI v) y (nI n) p m (d + 1) (nI k) (oc_nx (oc_c v p) a n) := by
  intro d
  induction d with
  | zero =>
    intro b k a hb hd ha h
    rcases oc_nx_b (oc_ok_c v ok) ha with ⟨e, hno⟩ | ⟨q, hq, hbq, e, hin, hno⟩
    · rw [e]
      have z : oc_D (oc_e (oc_c v p) (oc_th (oc_c v p) m n y) n) (192 - b) b = 0 := oc_D_0 (fun w h1 h2 => by
        unfold oc_e
        rw [hno w h1 (by omega)]
        rfl)
      rw [z] at h
      exact br_t (by decide) h
    · omega
  | succ d ih =>
    intro b k a hb hd ha h
    rcases oc_nx_b (oc_ok_c v ok) ha with ⟨e, hno⟩ | ⟨q, hq, hbq, e, hin, hno⟩
    · rw [e]
      have z : oc_D (oc_e (oc_c v p) (oc_th (oc_c v p) m n y) n) (192 - b) b = 0 := oc_D_0 (fun w h1 h2 => by
        unfold oc_e
        rw [hno w h1 (by omega)]
        rfl)
      rw [z] at h
      exact br_t (by decide) h
    · rw [e]
      have z := oc_D_step (e := oc_e (oc_c v p) (oc_th (oc_c v p) m n y) n) hbq hq (fun w h1 h2 => by
        unfold oc_e
        rw [hno w h1 h2]
        rfl)
      refine br_f (nI_pos (by omega)) ?_
      refine oc_ysum hv hq hn ok ?_
      refine br_c (fun g => ?_) (fun g => nm_r (nI_1 k) ?_)
      · have t : ¬ oc_e (oc_c v p) (oc_th (oc_c v p) m n y) n q = true := by
          unfold oc_e
          rw [hin, Bool.true_and]
          exact fun t => absurd g (Int32.not_lt.mpr (of_decide_eq_true t))
        rw [z, if_neg t, Nat.zero_add] at h
        refine oc_yhv43 hv hn ok ?_
        exact ih (q + 1) k (nI q) (by omega) (by omega) (oc_af_s hq) h
      · have t : oc_e (oc_c v p) (oc_th (oc_c v p) m n y) n q = true := by
          unfold oc_e
          rw [hin, Bool.true_and]
          exact decide_eq_true (Int32.not_lt.mp g)
        rw [z, if_pos t, ← Nat.add_assoc] at h
        refine oc_yhv43 hv hn ok ?_
        exact ih (q + 1) (k + 1) (nI q) (by omega) (by omega) (oc_af_s hq) h
end
section
theorem oc_bp_c {F F' : Nat → Prop} {S : Nat → Int32} {f s : Int32} (hF : ∀ q, F q ↔ F' q) (h : oc_bp F S f s) : oc_bp F' S f s := by
  have e : F = F' := funext fun q => propext (hF q)
  rw [← e]
  exact h
theorem oc_xbest17 {post : Int32 → Prop} {v n : Nat} {p m : Nat → Int32} (hv : v < 48) (hn : n ≤ 40) (ok : oc_ok p n) (h : ∀ f s : Int32, oc_bp (fun q => oc_in (oc_c v p) q n = true) (fun q => oc_sm (oc_c v p) m q n) f s → post f) : ∀ (d i : Nat) (f s : Int32), i + d = n → oc_bp (fun q => oc_in (oc_c v p) q i = true) (fun q => oc_sm (oc_c v p) m q n) f s → wX_best_17 post (nI v) (nI n) p m (d + 1) f s (nI i) := by
  intro d
  induction d with
  | zero =>
    intro i f s hi hb
    have e : i = n := by omega
    subst e
    exact br_t (nI_le (Nat.le_refl _) (by omega)) (h f s hb)
  | succ d ih =>
    intro i f s hi hb
    have hc := oc_ok_c v ok i (by omega)
    have hF : ∀ q, oc_in (oc_c v p) q (i + 1) = true ↔ (oc_in (oc_c v p) q i = true ∨ q = oc_c v p i) := fun q => by
      rw [oc_in, Bool.or_eq_true, beq_iff_eq]
      exact ⟨fun z => z.elim Or.inl (fun w => Or.inr w.symm), fun z => z.elim Or.inl (fun w => Or.inr w.symm)⟩
    have it : (f < 0 ∨ s < oc_sm (oc_c v p) m (oc_c v p i) n ∨ (oc_sm (oc_c v p) m (oc_c v p i) n = s ∧ nI (oc_c v p i) < f)) → wX_best_17 post (nI v) (nI n) p m (d + 1) (nI (oc_c v p i)) (oc_sm (oc_c v p) m (oc_c v p i) n) (nI (i + 1)) := fun z => ih (i + 1) _ _ (by omega) (oc_bp_t hb hc hF z)
    have ie : ¬ (f < 0 ∨ s < oc_sm (oc_c v p) m (oc_c v p i) n ∨ (oc_sm (oc_c v p) m (oc_c v p i) n = s ∧ nI (oc_c v p i) < f)) → wX_best_17 post (nI v) (nI n) p m (d + 1) f s (nI (i + 1)) := fun z => ih (i + 1) _ _ (by omega) (oc_bp_n hb hc hF z)
    refine br_f (nI_ge (by omega) (by omega)) ⟨vp_in_nI (by omega) (by omega), ?_⟩
    rw [nI_clamp (by omega)]
    refine oc_xcl hv ok (show i < n by omega) ?_
    refine oc_xtot hv hc hn ok ?_
    refine br_c (fun h1 => nm_r (nI_1 i) (it (Or.inl h1))) (fun h1 => ?_)
    refine br_c (fun h2 => nm_r (nI_1 i) (it (Or.inr (Or.inl h2)))) (fun h2 => ?_)
    refine br_c (fun h3 => ?_) (fun h3 => nm_r (nI_1 i) (ie ?_))
    · refine br_c (fun h4 => nm_r (nI_1 i) (ie ?_)) (fun h4 => nm_r (nI_1 i) (it (Or.inr (Or.inr ⟨h3, Int32.not_le.mp h4⟩))))
      rintro (z | z | z)
      · exact h1 z
      · exact h2 z
      · exact absurd z.2 (Int32.not_lt.mpr h4)
    · rintro (z | z | z)
      · exact h1 z
      · exact h2 z
      · exact h3 z.1
theorem oc_ybest53 {post : Int32 → Prop} {J : Int32 → Int32 → Int32 → Prop} {v n q : Nat} {f s : Int32} {p m : Nat → Int32} (hv : v < 48) (hn : n ≤ 40) (ok : oc_ok p n) (h : J f s (oc_nx (oc_c v p) (nI q) n)) : wY_best_53 post J (nI v) f s (nI q) (nI n) p m := by
  unfold wY_best_53
  exact oc_ynext hv hn ok h
theorem oc_ybest47 {post : Int32 → Prop} {J : Int32 → Int32 → Int32 → Prop} {v n q : Nat} {s : Int32} {p m : Nat → Int32} (hv : v < 48) (hn : n ≤ 40) (ok : oc_ok p n) (h : J (nI q) s (oc_nx (oc_c v p) (nI q) n)) : wY_best_47 post J (nI v) (nI q) s (nI n) p m := by
  unfold wY_best_47
  exact oc_ybest53 hv hn ok h
theorem oc_ybest23 {post : Int32 → Prop} {v n : Nat} {p m : Nat → Int32} (hv : v < 48) (hn : n ≤ 40) (ok : oc_ok p n) (h : ∀ f s : Int32, oc_bp (fun q => oc_in (oc_c v p) q n = true) (fun q => oc_sm (oc_c v p) m q n) f s → post f) : ∀ (d b : Nat) (a f s : Int32), b ≤ 192 → 192 - b ≤ d → oc_af a b → oc_bp (fun q => oc_in (oc_c v p) q n = true ∧ q < b) (fun q => oc_sm (oc_c v p) m q n) f s → wY_best_23 post (nI v) (nI n) p m (d + 1) f s (oc_nx (oc_c v p) a n) := by
  have hz : ∀ (b : Nat) (f s : Int32), (∀ w, b ≤ w → w < 192 → oc_in (oc_c v p) w n = false) → oc_bp (fun q => oc_in (oc_c v p) q n = true ∧ q < b) (fun q => oc_sm (oc_c v p) m q n) f s → post f := by
    intro b f s hno hb
    refine h f s (oc_bp_c (fun q => ⟨fun z => z.1, fun z => ⟨z, ?_⟩⟩) hb)
    have w : ¬ b ≤ q := fun w => by
      rw [hno q w (oc_in_lt (oc_ok_c v ok) z)] at z
      exact absurd z (by decide)
    omega
  intro d
  induction d with
  | zero =>
    intro b a f s hb hd ha hbp
    rcases oc_nx_b (oc_ok_c v ok) ha with ⟨e, hno⟩ | ⟨q, hq, hbq, e, hin, hno⟩
    · rw [e]
      exact br_t (by decide) (hz b f s hno hbp)
    · omega
  | succ d ih =>
    intro b a f s hb hd ha hbp
    rcases oc_nx_b (oc_ok_c v ok) ha with ⟨e, hno⟩ | ⟨x, hx, hbx, e, hin, hno⟩
    · rw [e]
      exact br_t (by decide) (hz b f s hno hbp)
    · rw [e]
      have hF : ∀ q, (oc_in (oc_c v p) q n = true ∧ q < x + 1) ↔ ((oc_in (oc_c v p) q n = true ∧ q < b) ∨ q = x) := fun q => by
        constructor
        · rintro ⟨z1, z2⟩
          by_cases w : q = x
          · exact Or.inr w
          · by_cases w2 : q < b
            · exact Or.inl ⟨z1, w2⟩
            · rw [hno q (by omega) (by omega)] at z1
              exact absurd z1 (by decide)
        · rintro (⟨z1, z2⟩ | z)
          · exact ⟨z1, by omega⟩
          · rw [z]
            exact ⟨hin, by omega⟩
      have it : (f < 0 ∨ s < oc_sm (oc_c v p) m x n ∨ (oc_sm (oc_c v p) m x n = s ∧ nI x < f)) → wY_best_23 post (nI v) (nI n) p m (d + 1) (nI x) (oc_sm (oc_c v p) m x n) (oc_nx (oc_c v p) (nI x) n) := fun z => ih (x + 1) (nI x) _ _ (by omega) (by omega) (oc_af_s hx) (oc_bp_t hbp hx hF z)
      have ie : ¬ (f < 0 ∨ s < oc_sm (oc_c v p) m x n ∨ (oc_sm (oc_c v p) m x n = s ∧ nI x < f)) → wY_best_23 post (nI v) (nI n) p m (d + 1) f s (oc_nx (oc_c v p) (nI x) n) := fun z => ih (x + 1) (nI x) _ _ (by omega) (by omega) (oc_af_s hx) (oc_bp_n hbp hx hF z)
      refine br_f (nI_pos (by omega)) ?_
      refine oc_ysum hv hx hn ok ?_
      refine br_c (fun h1 => ?_) (fun h1 => br_c (fun h2 => ?_) (fun h2 => ?_))
      · refine oc_ybest47 hv hn ok ?_
        exact it (Or.inl h1)
      · refine oc_ybest53 hv hn ok ?_
        refine ie ?_
        rintro (z | z | z)
        · exact h1 z
        · exact absurd z (Int32.not_lt.mpr h2)
        · rcases hbp with ⟨w, _, _⟩ | ⟨y, hy, w, _, hFy, _⟩
          · rw [w] at h1
            exact h1 (by decide)
          · have z2 := z.2
            rw [w, nI_ltI (by omega) (by omega)] at z2
            have z3 : y < b := hFy.2
            omega
      · refine oc_ybest47 hv hn ok ?_
        exact it (Or.inr (Or.inl (Int32.not_le.mp h2)))
def oc_vw (p : Nat → Int32) (n : Nat) (x : Int32) : Nat → Int32
  | 0 => 0
  | v + 1 => if nI (oc_fc (oc_c v p) oc_tt n) = x then oc_vw p n x v + 1 else oc_vw p n x v
theorem oc_xvw {post : Int32 → Prop} {n : Nat} {x : Int32} {p m : Nat → Int32} (hn : n ≤ 40) (ok : oc_ok p n) (h : post (oc_vw p n x 48)) : ∀ d i : Nat, i + d = 48 → wX_viewsWith_17 post x (nI n) p m (d + 1) (oc_vw p n x i) (nI i) := by
  intro d
  induction d with
  | zero =>
    intro i hi
    have e : i = 48 := by omega
    subst e
    exact br_t (nI_le (a := 48) (b := 48) (by decide) (by decide)) h
  | succ d ih =>
    intro i hi
    have ih' := ih (i + 1) (by omega)
    rw [oc_vw] at ih'
    refine br_f (nI_ge (b := 48) (by omega) (by decide)) ?_
    refine oc_xfull (show i < 48 by omega) hn ok ?_
    refine br_c (fun e => nm_e (nm_r (nI_1 i) ?_)) (fun e => nm_r (nI_1 i) ?_)
    · rw [if_pos e] at ih'
      exact ih'
    · rw [if_neg e] at ih'
      exact ih'
theorem oc_yvw {post : Int32 → Prop} {n : Nat} {x : Int32} {p m : Nat → Int32} (hn : n ≤ 40) (ok : oc_ok p n) (h : post (oc_vw p n x 48)) : ∀ d i : Nat, i + d = 48 → wY_viewsWith_17 post x (nI n) p m (d + 1) (oc_vw p n x i) (nI i) := by
  intro d
  induction d with
  | zero =>
    intro i hi
    have e : i = 48 := by omega
    subst e
    exact br_t (nI_le (a := 48) (b := 48) (by decide) (by decide)) h
  | succ d ih =>
    intro i hi
    have ih' := ih (i + 1) (by omega)
    rw [oc_vw] at ih'
    refine br_f (nI_ge (b := 48) (by omega) (by decide)) ?_
    refine oc_yfull (show i < 48 by omega) hn ok ?_
    refine br_c (fun e => nm_e (nm_r (nI_1 i) ?_)) (fun e => nm_r (nI_1 i) ?_)
    · rw [if_pos e] at ih'
      exact ih'
    · rw [if_neg e] at ih'
      exact ih'
end
section
theorem oc_xfB {post : Int32 → Prop} {x y : Nat} (hx : x < 4) (hy : y < 4) (h1 : (x = 0 ∨ y = 3 ∨ x = y) → post 1) (h0 : ¬ (x = 0 ∨ y = 3 ∨ x = y) → post 0) : wpX_isFinerInB post (nI x) (nI y) := by
  unfold wpX_isFinerInB
  exact pk_eq x 0 (fun e => h1 (Or.inl e)) (fun e => pk_eq y 3 (fun e1 => h1 (Or.inr (Or.inl e1))) (fun e1 => pk_eq x y (fun e2 => h1 (Or.inr (Or.inr e2))) (fun e2 => h0 (by omega))))
theorem oc_x69a {post : Int32 → Prop} {f : Int32} {p m : Nat → Int32} {x y z : Int32} (h : x = 0 ∨ y = 0 ∨ z = 0) (hp : post 0) : wX_finer_69 post x y z f p m := by
  unfold wX_finer_69
  refine br_c (fun _ => hp) (fun h1 => br_c (fun _ => hp) (fun h2 => br_c (fun _ => hp) (fun h3 => ?_)))
  rcases h with h | h | h
  · exact absurd h h1
  · exact absurd h h2
  · exact absurd h h3
theorem oc_x69b {post : Int32 → Prop} {f : Int32} {p m : Nat → Int32} (hp : post 1) : wX_finer_69 post 1 1 1 f p m := br_f (by decide) (br_f (by decide) (br_f (by decide) hp))
theorem oc_x43a {post : Int32 → Prop} {F : Int32} {p m : Nat → Int32} {f g : Nat} (hf : f < 48) (hg : g < 48) (h0 : post 0) : wX_finer_43 post (nI f) (nI g) (nI (f / 4 % 4)) (nI (g / 4 % 4)) 0 F p m := by
  unfold wX_finer_43
  refine oc_xfB (by omega) (by omega) (fun hb => ?_) (fun hb => ?_)
  · refine oc_xlC (by omega) ?_
    refine oc_xlC (by omega) ?_
    exact br_c (fun _ => oc_x69a (Or.inl rfl) h0) (fun _ => oc_x69a (Or.inl rfl) h0)
  · refine oc_xlC (by omega) ?_
    refine oc_xlC (by omega) ?_
    exact br_c (fun _ => oc_x69a (Or.inl rfl) h0) (fun _ => oc_x69a (Or.inl rfl) h0)
theorem oc_x43b {post : Int32 → Prop} {F : Int32} {p m : Nat → Int32} {f g : Nat} (hf : f < 48) (hg : g < 48) (ha : f / 16 ≤ g / 16) (h1 : oc_fn f g → post 1) (h0 : ¬ oc_fn f g → post 0) : wX_finer_43 post (nI f) (nI g) (nI (f / 4 % 4)) (nI (g / 4 % 4)) 1 F p m := by
  unfold wX_finer_43
  refine oc_xfB (by omega) (by omega) (fun hb => ?_) (fun hb => ?_)
  · refine oc_xlC (by omega) ?_
    refine oc_xlC (by omega) ?_
    refine pk_lt (g % 4) (f % 4) (fun hc => oc_x69a (Or.inr (Or.inr rfl)) (h0 (fun z => ?_))) (fun hc => oc_x69b (h1 ⟨ha, hb, hc⟩))
    have w := z.2.2
    omega
  · refine oc_xlC (by omega) ?_
    refine oc_xlC (by omega) ?_
    have w : post 0 := h0 (fun z => hb z.2.1)
    exact br_c (fun _ => oc_x69a (Or.inr (Or.inl rfl)) w) (fun _ => oc_x69a (Or.inr (Or.inl rfl)) w)
theorem oc_xfin {post : Int32 → Prop} {F : Int32} {p m : Nat → Int32} {f g : Nat} (hf : f < 48) (hg : g < 48) (h1 : oc_fn f g → post 1) (h0 : ¬ oc_fn f g → post 0) : wpX_finer post (F, p, m) (nI f) (nI g) := by
  unfold wpX_finer
  dsimp only
  refine oc_xV1 hf ?_
  refine br_f (by decide) ?_
  refine oc_xV1 hg ?_
  refine br_f (by decide) ?_
  refine oc_xlB (by omega) ?_
  refine oc_xlB (by omega) ?_
  refine oc_xlA (by omega) ?_
  refine oc_xlA (by omega) ?_
  refine pk_lt (g / 16) (f / 16) (fun ha => oc_x43a hf hg (h0 (fun z => ?_))) (fun ha => oc_x43b hf hg ha h1 h0)
  have w := z.1
  omega
theorem oc_yfin46 {post : Int32 → Prop} {J : Int32 → Prop} {F : Int32} {p m : Nat → Int32} {f g P : Nat} (hf : f < 48) (hg : g < 48) (hP : P < 192) (h0 : (∃ q, q < P ∧ oc_bad f g P q) → post 0) (h1 : (∀ q, q < P → ¬ oc_bad f g P q) → J (nI (P + 1))) : ∀ d i : Nat, i + d = P → (∀ q, q < i → ¬ oc_bad f g P q) → wY_finer_46 post J (nI f) (nI g) (nI P) (nI (oc_cl f P)) (nI (oc_cl g P)) F p m (d + 1) (nI i) := by
  have c1 := oc_cl_lt (v := f) hP
  have c2 := oc_cl_lt (v := g) hP
  intro d
  induction d with
  | zero =>
    intro i hi hall
    have e : i = P := by omega
    subst e
    exact br_t (nI_le (Nat.le_refl _) (by omega)) (nm_r (nI_1 i) (h1 hall))
  | succ d ih =>
    intro i hi hall
    have hi2 : i < 192 := by omega
    have c3 := oc_cl_lt (v := f) hi2
    have c4 := oc_cl_lt (v := g) hi2
    have nx : ¬ oc_bad f g P i → wY_finer_46 post J (nI f) (nI g) (nI P) (nI (oc_cl f P)) (nI (oc_cl g P)) F p m (d + 1) (nI (i + 1)) := fun z => ih (i + 1) (by omega) (fun q hq => by
      by_cases w : q = i
      · rw [w]
        exact z
      · exact hall q (by omega))
    refine br_f (nI_ge (by omega) (by omega)) ?_
    refine oc_yfall hf hi2 ?_
    refine pk_eq (oc_cl f i) (oc_cl f P) (fun e => ?_) (fun e => nm_r (nI_1 i) (nx (fun z => e z.1)))
    refine oc_yfall hg hi2 ?_
    exact pk_eq (oc_cl g i) (oc_cl g P) (fun e2 => nm_r (nI_1 i) (nx (fun z => z.2 e2))) (fun e2 => h0 ⟨i, by omega, e, e2⟩)
theorem oc_yfin20 {post : Int32 → Prop} {F : Int32} {p m : Nat → Int32} {f g : Nat} (hf : f < 48) (hg : g < 48) (h1 : oc_fn f g → post 1) (h0 : ¬ oc_fn f g → post 0) : ∀ d P : Nat, P + d = 192 → (∀ a b, a < P → b < a → ¬ oc_bad f g a b) → wY_finer_20 post (nI f) (nI g) F p m (d + 1) (nI P) := by
  intro d
  induction d with
  | zero =>
    intro P hP hall
    have e : P = 192 := by omega
    subst e
    refine br_t (nI_le (a := 192) (b := 192) (by decide) (by decide)) (h1 ?_)
    by_cases w : oc_fn f g
    · exact w
    · obtain ⟨a, b, ha, hb, hbad⟩ := oc_fn_f hf hg w
      exact absurd hbad (hall a b ha hb)
  | succ d ih =>
    intro P hP hall
    refine br_f (nI_ge (b := 192) (by omega) (by decide)) ?_
    refine oc_yfall hf (by omega) ?_
    refine oc_yfall hg (by omega) ?_
    refine ⟨P + 1, oc_yfin46 hf hg (by omega) (fun z => ?_) (fun hq => ih (P + 1) (by omega) (fun a b ha hb => ?_)) P 0 (by omega) (fun q hq => absurd hq (Nat.not_lt_zero q))⟩
    · obtain ⟨q, hq, hbad⟩ := z
      exact h0 (fun w => oc_fn_t hf hg w (by omega) (by omega) hbad)
    · by_cases w : a = P
      · subst w
        exact hq b hb
      · exact hall a b (by omega) hb
theorem oc_yfin {post : Int32 → Prop} {F : Int32} {p m : Nat → Int32} {f g : Nat} (hf : f < 48) (hg : g < 48) (h1 : oc_fn f g → post 1) (h0 : ¬ oc_fn f g → post 0) : wpY_finer post (F, p, m) (nI f) (nI g) := by
  unfold wpY_finer
  dsimp only
  refine oc_yV1 hf ?_
  refine br_t rfl ?_
  refine oc_yV1 hg ?_
  refine br_t rfl ?_
  exact ⟨193, oc_yfin20 hf hg h1 h0 192 0 (by omega) (fun a b ha _ => absurd ha (Nat.not_lt_zero a))⟩
end
section
theorem oc_ysowF {post : Int32 → SY → Prop} {s t : Int32} {c n : Nat} {p m : Nat → Int32} (hc : c ≤ 40) (h40 : 40 ≤ n) (hn : n ≤ 40) (h : post (nI n) (nI n, p, m)) : ∀ d k : Nat, k + d = c → wY_sow_44 post s t (nI c) (d + 1) (nI k) (nI n) p m := by
  intro d
  induction d with
  | zero =>
    intro k hk
    exact br_t (nI_le (by omega) (by omega)) h
  | succ d ih =>
    intro k hk
    exact br_f (nI_ge (by omega) (by omega)) (br_t (nI_le (a := 40) h40 (by omega)) (nm_r (nI_1 k) (ih (k + 1) (by omega))))
theorem oc_pl {s t k : Nat} (hs : s < 192) (ht : t < 192) (hk : k < 40) : ∃ q : Nat, q < 192 ∧ (nI s + nI k * nI t) - (nI s + nI k * nI t) / 192 * 192 = nI q := by
  have b1 : k * t ≤ 40 * 192 := Nat.mul_le_mul (by omega) (by omega)
  refine ⟨(s + k * t) % 192, Nat.mod_lt _ (by decide), ?_⟩
  rw [pk_mul, nI_add]
  exact pk_rem (d := 192) (by omega) (by decide) (by decide)
theorem oc_sow {s t c : Nat} (hs : s < 192) (ht : t < 192) (hc : c ≤ 40) : ∀ (d k n : Nat) (p m : Nat → Int32), k + d = c → n ≤ 40 → oc_ok p n → ∃ (n' : Nat) (p' m' : Nat → Int32), n' ≤ 40 ∧ oc_ok p' n' ∧ (∀ post : Int32 → SX → Prop, post (nI n') (nI n', p', m') → wX_sow_36 post (nI s) (nI t) (nI c) (d + 1) (nI k) (nI n) p m) ∧ (∀ post : Int32 → SY → Prop, post (nI n') (nI n', p', m') → wY_sow_44 post (nI s) (nI t) (nI c) (d + 1) (nI k) (nI n) p m) := by
  intro d
  induction d with
  | zero =>
    intro k n p m hk hn ok
    exact ⟨n, p, m, hn, ok, fun _ h => br_t (nI_le (by omega) (by omega)) h, fun _ h => br_t (nI_le (by omega) (by omega)) h⟩
  | succ d ih =>
    intro k n p m hk hn ok
    by_cases h40 : n < 40
    · obtain ⟨q, hq, e⟩ := oc_pl hs ht (show k < 40 by omega)
      obtain ⟨n', p', m', hn', ok', hX, hY⟩ := ih (k + 1) (n + 1) (upd p n ((nI s + nI k * nI t) - (nI s + nI k * nI t) / 192 * 192)) (upd m n ((((nI s * 7) + ((nI k * nI k) * 11)) - ((nI s * 7) + ((nI k * nI k) * 11)) / 300 * 300) - 100)) (by omega) (by omega) (oc_ok_a ok hq e)
      refine ⟨n', p', m', hn', ok', fun post h => ?_, fun post h => ?_⟩
      · refine br_f (nI_ge (by omega) (by omega)) (br_f (nI_ge (b := 40) h40 (by decide)) ⟨by decide, by decide, ?_⟩)
        refine oc_xapp h40 ?_
        exact nm_r (nI_1 k) (hX post h)
      · refine br_f (nI_ge (by omega) (by omega)) (br_f (nI_ge (b := 40) h40 (by decide)) ⟨by decide, by decide, ?_⟩)
        refine oc_yapp h40 ?_
        exact nm_r (nI_1 k) (hY post h)
    · refine ⟨n, p, m, hn, ok, fun post h => ?_, fun post h => ?_⟩
      · exact br_f (nI_ge (by omega) (by omega)) (br_t (nI_le (a := 40) (by omega) (by omega)) h)
      · exact oc_ysowF hc (by omega) hn h (d + 1) k hk
theorem oc_drop {n : Nat} (hn : n + 1 ≤ 40) : ∀ (d i : Nat) (p m : Nat → Int32), i + d = n → oc_ok p (n + 1) → ∃ p' m' : Nat → Int32, oc_ok p' n ∧ (∀ post : Int32 → SX → Prop, post (nI n) (nI n, p', m') → wX_drop_12 post (nI (n + 1)) (d + 1) (nI i) p m) ∧ (∀ post : Int32 → SY → Prop, post (nI n) (nI n, p', m') → wY_drop_12 post (nI (n + 1)) (d + 1) (nI i) p m) := by
  intro d
  induction d with
  | zero =>
    intro i p m hi ok
    have e : i = n := by omega
    subst e
    refine ⟨p, m, oc_ok_le ok (by omega), fun post h => ?_, fun post h => ?_⟩
    · refine br_t ?_ (nm_r (nI_pred i) h)
      rw [nI_pred]
      exact nI_le (Nat.le_refl _) (by omega)
    · refine br_t ?_ (nm_r (nI_pred i) h)
      rw [nI_1 i]
      exact nI_le (Nat.le_refl _) (by omega)
  | succ d ih =>
    intro i p m hi ok
    obtain ⟨p', m', ok', hX, hY⟩ := ih (i + 1) (upd p i (p (i + 1))) (upd m i (m (i + 1))) (by omega) (oc_ok_s ok (by omega))
    refine ⟨p', m', ok', fun post h => ?_, fun post h => ?_⟩
    · refine br_f ?_ ?_
      · rw [nI_pred]
        exact nI_ge (by omega) (by omega)
      · rw [nI_1 i, nI_clamp (n := i + 1) (by omega), nI_clamp (n := i) (by omega)]
        exact ⟨vp_in_nI (by omega) (by decide), vp_in_nI (by omega) (by decide), nm_e ⟨vp_in_nI (by omega) (by decide), vp_in_nI (by omega) (by decide), nm_e (nm_e (hX post h))⟩⟩
    · refine br_f ?_ ?_
      · rw [nI_1 i]
        exact nI_ge (by omega) (by omega)
      · rw [nI_1 i, nI_clamp (n := i + 1) (by omega), nI_clamp (n := i) (by omega)]
        exact ⟨vp_in_nI (by omega) (by decide), vp_in_nI (by omega) (by decide), nm_e ⟨vp_in_nI (by omega) (by decide), vp_in_nI (by omega) (by decide), nm_e (nm_e (hY post h))⟩⟩
end
section
def i_Rel (_ : Nat) (u : SX) (v : SY) : Prop := ∃ (n : Nat) (p m : Nat → Int32), n ≤ 40 ∧ oc_ok p n ∧ u = (nI n, p, m) ∧ v = (nI n, p, m)
theorem oc_R {k n : Nat} {p m : Nat → Int32} (hn : n ≤ 40) (ok : oc_ok p n) : i_Rel k (nI n, p, m) (nI n, p, m) := ⟨n, p, m, hn, ok, rfl, rfl⟩
theorem i_up {k : Nat} {u : SX} {v : SY} (h : i_Rel k u v) : i_Rel (k + 4) u v := h
theorem i_vc0 : wpX_init (fun u => wpY_init (fun v => i_Rel 0 u v)) := ⟨0, (fun _ => 0), (fun _ => 0), by decide, fun j hj => absurd hj (Nat.not_lt_zero j), rfl, rfl⟩
theorem i_vc_put {k : Nat} {u : SX} {v : SY} (I : i_Rel k u v) (hk : k + 4 ≤ 2048) (v1 : Int32) (v2 : Int32) : wpX_put (fun r u' => wpY_put (fun r' v' => r' = r ∧ i_Rel (k + 4) u' v') v v1 v2) u v1 v2 := by
  obtain ⟨n, p, m, hn, ok, rfl, rfl⟩ := I
  unfold wpX_put wpY_put
  dsimp only
  rcases oc_cs v1 (N := 192) (by decide) with h | ⟨a, ha, rfl⟩
  · refine oc_xP0 h (br_t rfl ?_)
    by_cases h0 : v1 < 0
    · exact br_t h0 ⟨rfl, oc_R hn ok⟩
    · exact br_f h0 (br_f (oc_n191 (h.resolve_left h0)) ⟨rfl, oc_R hn ok⟩)
  · refine oc_xP1 ha (br_f (by decide) ?_)
    have g0 : ¬ nI a < 0 := nI_pos (by omega)
    have g1 : nI a ≤ 191 := nI_le (b := 191) (by omega) (by decide)
    by_cases h1 : v2 < -1000
    · refine oc_xM0 (Or.inl h1) (br_t rfl ?_)
      exact br_f g0 (br_t g1 (br_t h1 ⟨rfl, oc_R hn ok⟩))
    · by_cases h2 : 1000 < v2
      · refine oc_xM0 (Or.inr h2) (br_t rfl ?_)
        exact br_f g0 (br_t g1 (br_f h1 (br_f (Int32.not_le.mpr h2) ⟨rfl, oc_R hn ok⟩)))
      · refine oc_xM1 h1 h2 (br_f (by decide) ?_)
        by_cases h40 : n < 40
        · have g2 : nI n < 40 := nI_lt (b := 40) h40 (by decide)
          refine br_t g2 ?_
          refine oc_xapp h40 ?_
          refine br_f g0 (br_t g1 (br_f h1 (br_t (Int32.not_lt.mp h2) (br_t g2 ?_))))
          refine oc_yapp h40 ?_
          exact ⟨rfl, oc_R (by omega) (oc_ok_a ok ha rfl)⟩
        · have g2 : ¬ nI n < 40 := nI_nlt (b := 40) (by omega) (by omega)
          refine br_f g2 ?_
          exact br_f g0 (br_t g1 (br_f h1 (br_t (Int32.not_lt.mp h2) (br_f g2 ⟨rfl, oc_R hn ok⟩))))
theorem i_vc_sow {k : Nat} {u : SX} {v : SY} (I : i_Rel k u v) (hk : k + 4 ≤ 2048) (v1 : Int32) (v2 : Int32) (v3 : Int32) : wpX_sow (fun r u' => wpY_sow (fun r' v' => r' = r ∧ i_Rel (k + 4) u' v') v v1 v2 v3) u v1 v2 v3 := by
  obtain ⟨n, p, m, hn, ok, rfl, rfl⟩ := I
  unfold wpX_sow wpY_sow
  dsimp only
  rcases oc_cs v1 (N := 192) (by decide) with h | ⟨a, ha, rfl⟩
  · refine oc_xP0 h (br_t rfl ?_)
    by_cases h0 : v1 < 0
    · exact br_t h0 ⟨rfl, oc_R hn ok⟩
    · exact br_f h0 (br_f (oc_n191 (h.resolve_left h0)) ⟨rfl, oc_R hn ok⟩)
  · refine oc_xP1 ha (br_f (by decide) ?_)
    have g0 : ¬ nI a < 0 := nI_pos (by omega)
    have g1 : nI a ≤ 191 := nI_le (b := 191) (by omega) (by decide)
    rcases oc_cs v2 (N := 192) (by decide) with h | ⟨b, hb, rfl⟩
    · refine oc_xP0 h (br_t rfl ?_)
      refine br_f g0 (br_t g1 ?_)
      by_cases h0 : v2 < 0
      · exact br_t h0 ⟨rfl, oc_R hn ok⟩
      · exact br_f h0 (br_f (oc_n191 (h.resolve_left h0)) ⟨rfl, oc_R hn ok⟩)
    · refine oc_xP1 hb (br_f (by decide) ?_)
      have g2 : ¬ nI b < 0 := nI_pos (by omega)
      have g3 : nI b ≤ 191 := nI_le (b := 191) (by omega) (by decide)
      by_cases h1 : v3 < 1
      · exact br_t h1 (br_f g0 (br_t g1 (br_f g2 (br_t g3 (br_t h1 ⟨rfl, oc_R hn ok⟩)))))
      · by_cases h2 : v3 ≤ 40
        · have h3 : ¬ v3 < 0 := fun z => h1 (Int32.lt_trans z (by decide))
          obtain ⟨c, hc, rfl⟩ := nI_of2 (n := 40) (by decide) h3 h2
          obtain ⟨n', p', m', hn', ok', hX, hY⟩ := oc_sow ha hb hc c 0 n p m (by omega) hn ok
          refine br_f h1 (br_t h2 ⟨c + 1, hX _ ?_⟩)
          refine br_f g0 (br_t g1 (br_f g2 (br_t g3 (br_f h1 (br_t h2 ⟨c + 1, hY _ ?_⟩)))))
          exact ⟨rfl, oc_R hn' ok'⟩
        · exact br_f h1 (br_f h2 (br_f g0 (br_t g1 (br_f g2 (br_t g3 (br_f h1 (br_f h2 ⟨rfl, oc_R hn ok⟩)))))))
theorem i_vc_measure {k : Nat} {u : SX} {v : SY} (I : i_Rel k u v) (hk : k + 4 ≤ 2048) (v1 : Int32) (v2 : Int32) : wpX_measure (fun r u' => wpY_measure (fun r' v' => r' = r ∧ i_Rel (k + 4) u' v') v v1 v2) u v1 v2 := by
  obtain ⟨n, p, m, hn, ok, rfl, rfl⟩ := I
  unfold wpX_measure wpY_measure
  dsimp only
  rcases oc_cs v1 (N := n) (by omega) with h | ⟨a, ha, rfl⟩
  · refine oc_xF0 h (br_t rfl ?_)
    refine oc_yF0 h ?_
    exact br_f (by decide) ⟨rfl, oc_R hn ok⟩
  · refine oc_xF1 hn ha (br_f (by decide) ?_)
    have hi : vp_in (nI a) 40 := vp_in_nI (by omega) (by decide)
    by_cases h1 : v2 < -1000
    · refine oc_xM0 (Or.inl h1) (br_t rfl ?_)
      refine oc_yF1 hn ha ?_
      exact br_t rfl (br_t h1 ⟨rfl, oc_R hn ok⟩)
    · by_cases h2 : 1000 < v2
      · refine oc_xM0 (Or.inr h2) (br_t rfl ?_)
        refine oc_yF1 hn ha ?_
        exact br_t rfl (br_f h1 (br_f (Int32.not_le.mpr h2) ⟨rfl, oc_R hn ok⟩))
      · refine oc_xM1 h1 h2 (br_f (by decide) ?_)
        refine ⟨hi, nm_e ⟨hi, nm_e ?_⟩⟩
        refine oc_yF1 hn ha ?_
        exact br_t rfl (br_f h1 (br_t (Int32.not_lt.mp h2) ⟨hi, nm_e ⟨hi, nm_e ⟨rfl, oc_R hn ok⟩⟩⟩))
theorem i_vc_drop {k : Nat} {u : SX} {v : SY} (I : i_Rel k u v) (hk : k + 4 ≤ 2048) (v1 : Int32) : wpX_drop (fun r u' => wpY_drop (fun r' v' => r' = r ∧ i_Rel (k + 4) u' v') v v1) u v1 := by
  obtain ⟨n, p, m, hn, ok, rfl, rfl⟩ := I
  unfold wpX_drop wpY_drop
  dsimp only
  rcases oc_cs v1 (N := n) (by omega) with h | ⟨a, ha, rfl⟩
  · refine oc_xF0 h (br_t rfl ?_)
    refine oc_yF0 h ?_
    exact br_f (by decide) ⟨rfl, oc_R hn ok⟩
  · refine oc_xF1 hn ha (br_f (by decide) ?_)
    obtain ⟨j, rfl⟩ : ∃ j, n = j + 1 := ⟨n - 1, by omega⟩
    obtain ⟨p', m', ok', hX, hY⟩ := oc_drop hn (j - a) a p m (by omega) ok
    refine ⟨j - a + 1, hX _ ?_⟩
    refine oc_yF1 hn ha ?_
    refine br_t rfl ⟨j - a + 1, hY _ ?_⟩
    exact ⟨rfl, oc_R (by omega) ok'⟩
theorem i_vc_prepare {k : Nat} {u : SX} {v : SY} (I : i_Rel k u v) (hk : k + 4 ≤ 2048) (v1 : Int32) : wpX_prepare (fun r => wpY_prepare (fun r' => r' = r ∧ i_Rel (k + 4) u v) v v1) u v1 := by
  obtain ⟨n, p, m, hn, ok, rfl, rfl⟩ := I
  unfold wpX_prepare wpY_prepare
  dsimp only
  rcases oc_cs v1 (N := 48) (by decide) with h | ⟨a, ha, rfl⟩
  · refine oc_xV0 h (br_t rfl ?_)
    unfold wpY_full
    dsimp only
    refine oc_yV0 h ?_
    exact br_f (by decide) ⟨rfl, oc_R hn ok⟩
  · refine oc_xV1 ha (br_f (by decide) ?_)
    refine oc_xfull ha hn ok ?_
    refine oc_yfull ha hn ok ?_
    exact ⟨rfl, oc_R hn ok⟩
theorem i_vc_facts {k : Nat} {u : SX} {v : SY} (I : i_Rel k u v) (hk : k + 4 ≤ 2048) : wpX_facts (fun r => wpY_facts (fun r' => r' = r ∧ i_Rel (k + 4) u v) v) u := by
  obtain ⟨n, p, m, hn, ok, rfl, rfl⟩ := I
  exact ⟨rfl, oc_R hn ok⟩
theorem i_vc_cellOf {k : Nat} {u : SX} {v : SY} (I : i_Rel k u v) (hk : k + 4 ≤ 2048) (v1 : Int32) (v2 : Int32) : wpX_cellOf (fun r => wpY_cellOf (fun r' => r' = r ∧ i_Rel (k + 4) u v) v v1 v2) u v1 v2 := by
  obtain ⟨n, p, m, hn, ok, rfl, rfl⟩ := I
  unfold wpX_cellOf wpY_cellOf
  dsimp only
  rcases oc_cs v1 (N := 48) (by decide) with h | ⟨a, ha, rfl⟩
  · refine oc_xV0 h (br_t rfl ?_)
    refine oc_yV0 h ?_
    exact br_f (by decide) ⟨rfl, oc_R hn ok⟩
  · refine oc_xV1 ha (br_f (by decide) ?_)
    rcases oc_cs v2 (N := n) (by omega) with h | ⟨b, hb, rfl⟩
    · refine oc_xF0 h (br_t rfl ?_)
      refine oc_yV1 ha (br_t rfl ?_)
      refine oc_yF0 h ?_
      exact br_f (by decide) ⟨rfl, oc_R hn ok⟩
    · refine oc_xF1 hn hb (br_f (by decide) ?_)
      have hi : vp_in (nI b) 40 := vp_in_nI (by omega) (by decide)
      rw [nI_clamp (by omega)]
      refine ⟨hi, ?_⟩
      refine oc_xcl ha ok hb ?_
      refine oc_yV1 ha (br_t rfl ?_)
      refine oc_yF1 hn hb (br_t rfl ?_)
      refine ⟨hi, ?_⟩
      refine oc_ycl ha ok hb ?_
      exact ⟨rfl, oc_R hn ok⟩
theorem i_vc_full {k : Nat} {u : SX} {v : SY} (I : i_Rel k u v) (hk : k + 4 ≤ 2048) (v1 : Int32) : wpX_full (fun r => wpY_full (fun r' => r' = r ∧ i_Rel (k + 4) u v) v v1) u v1 := by
  obtain ⟨n, p, m, hn, ok, rfl, rfl⟩ := I
  unfold wpX_full
  dsimp only
  rcases oc_cs v1 (N := 48) (by decide) with h | ⟨a, ha, rfl⟩
  · refine oc_xV0 h (br_t rfl ?_)
    unfold wpY_full
    dsimp only
    refine oc_yV0 h ?_
    exact br_f (by decide) ⟨rfl, oc_R hn ok⟩
  · refine oc_xV1 ha (br_f (by decide) ?_)
    refine oc_xfull ha hn ok ?_
    refine oc_yfull ha hn ok ?_
    exact ⟨rfl, oc_R hn ok⟩
theorem i_vc_count {k : Nat} {u : SX} {v : SY} (I : i_Rel k u v) (hk : k + 4 ≤ 2048) (v1 : Int32) (v2 : Int32) : wpX_count (fun r => wpY_count (fun r' => r' = r ∧ i_Rel (k + 4) u v) v v1 v2) u v1 v2 := by
  obtain ⟨n, p, m, hn, ok, rfl, rfl⟩ := I
  unfold wpX_count wpY_count
  dsimp only
  rcases oc_cs v1 (N := 48) (by decide) with h | ⟨a, ha, rfl⟩
  · refine oc_xV0 h (br_t rfl ?_)
    refine oc_yV0 h ?_
    exact br_f (by decide) ⟨rfl, oc_R hn ok⟩
  · refine oc_xV1 ha (br_f (by decide) ?_)
    rcases oc_cs v2 (N := 192) (by decide) with h | ⟨b, hb, rfl⟩
    · refine oc_xC0 h (br_t rfl ?_)
      refine oc_yV1 ha (br_t rfl ?_)
      refine oc_yC0 h ?_
      exact br_f (by decide) ⟨rfl, oc_R hn ok⟩
    · refine oc_xC1 hb (br_f (by decide) ?_)
      refine ⟨n + 1, oc_xct ha hb hn ok ?_ n 0 (by omega)⟩
      refine oc_yV1 ha (br_t rfl ?_)
      refine oc_yC1 hb (br_t rfl ?_)
      refine ⟨n + 1, oc_yct ha hb hn ok ?_ n 0 (by omega)⟩
      exact ⟨rfl, oc_R hn ok⟩
theorem i_vc_sum {k : Nat} {u : SX} {v : SY} (I : i_Rel k u v) (hk : k + 4 ≤ 2048) (v1 : Int32) (v2 : Int32) : wpX_sum (fun r => wpY_sum (fun r' => r' = r ∧ i_Rel (k + 4) u v) v v1 v2) u v1 v2 := by
  obtain ⟨n, p, m, hn, ok, rfl, rfl⟩ := I
  unfold wpX_sum wpY_sum
  dsimp only
  rcases oc_cs v1 (N := 48) (by decide) with h | ⟨a, ha, rfl⟩
  · refine oc_xV0 h (br_t rfl ?_)
    refine oc_yV0 h ?_
    exact br_f (by decide) ⟨rfl, oc_R hn ok⟩
  · refine oc_xV1 ha (br_f (by decide) ?_)
    rcases oc_cs v2 (N := 192) (by decide) with h | ⟨b, hb, rfl⟩
    · refine oc_xC0 h (br_t rfl ?_)
      refine oc_yV1 ha (br_t rfl ?_)
      refine oc_yC0 h ?_
      exact br_f (by decide) ⟨rfl, oc_R hn ok⟩
    · refine oc_xC1 hb (br_f (by decide) ?_)
      refine oc_xtot ha hb hn ok ?_
      refine oc_yV1 ha (br_t rfl ?_)
      refine oc_yC1 hb (br_t rfl ?_)
      refine ⟨n + 1, oc_ytot5 ha hb hn ok ?_ n 0 (by omega)⟩
      exact ⟨rfl, oc_R hn ok⟩
theorem i_vc_least {k : Nat} {u : SX} {v : SY} (I : i_Rel k u v) (hk : k + 4 ≤ 2048) (v1 : Int32) (v2 : Int32) : wpX_least (fun r => wpY_least (fun r' => r' = r ∧ i_Rel (k + 4) u v) v v1 v2) u v1 v2 := by
  obtain ⟨n, p, m, hn, ok, rfl, rfl⟩ := I
  unfold wpX_least wpY_least
  dsimp only
  rcases oc_cs v1 (N := 48) (by decide) with h | ⟨a, ha, rfl⟩
  · refine oc_xV0 h (br_t rfl ?_)
    refine oc_yV0 h ?_
    exact br_f (by decide) ⟨rfl, oc_R hn ok⟩
  · refine oc_xV1 ha (br_f (by decide) ?_)
    rcases oc_cs v2 (N := 192) (by decide) with h | ⟨b, hb, rfl⟩
    · refine oc_xC0 h (br_t rfl ?_)
      refine oc_yV1 ha (br_t rfl ?_)
      refine oc_yC0 h ?_
      exact br_f (by decide) ⟨rfl, oc_R hn ok⟩
    · refine oc_xC1 hb (br_f (by decide) ?_)
      refine ⟨n + 1, oc_xls ha hb hn ok ?_ n 0 (by omega)⟩
      refine oc_yV1 ha (br_t rfl ?_)
      refine oc_yC1 hb (br_t rfl ?_)
      refine ⟨n + 1, oc_yls ha hb hn ok ?_ n 0 (by omega)⟩
      exact ⟨rfl, oc_R hn ok⟩
theorem i_vc_most {k : Nat} {u : SX} {v : SY} (I : i_Rel k u v) (hk : k + 4 ≤ 2048) (v1 : Int32) (v2 : Int32) : wpX_most (fun r => wpY_most (fun r' => r' = r ∧ i_Rel (k + 4) u v) v v1 v2) u v1 v2 := by
  obtain ⟨n, p, m, hn, ok, rfl, rfl⟩ := I
  unfold wpX_most wpY_most
  dsimp only
  rcases oc_cs v1 (N := 48) (by decide) with h | ⟨a, ha, rfl⟩
  · refine oc_xV0 h (br_t rfl ?_)
    refine oc_yV0 h ?_
    exact br_f (by decide) ⟨rfl, oc_R hn ok⟩
  · refine oc_xV1 ha (br_f (by decide) ?_)
    rcases oc_cs v2 (N := 192) (by decide) with h | ⟨b, hb, rfl⟩
    · refine oc_xC0 h (br_t rfl ?_)
      refine oc_yV1 ha (br_t rfl ?_)
      refine oc_yC0 h ?_
      exact br_f (by decide) ⟨rfl, oc_R hn ok⟩
    · refine oc_xC1 hb (br_f (by decide) ?_)
      refine ⟨n + 1, oc_xms ha hb hn ok ?_ n 0 (by omega)⟩
      refine oc_yV1 ha (br_t rfl ?_)
      refine oc_yC1 hb (br_t rfl ?_)
      refine ⟨n + 1, oc_yms ha hb hn ok ?_ n 0 (by omega)⟩
      exact ⟨rfl, oc_R hn ok⟩
theorem i_vc_next {k : Nat} {u : SX} {v : SY} (I : i_Rel k u v) (hk : k + 4 ≤ 2048) (v1 : Int32) (v2 : Int32) : wpX_next (fun r => wpY_next (fun r' => r' = r ∧ i_Rel (k + 4) u v) v v1 v2) u v1 v2 := by
  obtain ⟨n, p, m, hn, ok, rfl, rfl⟩ := I
  rcases oc_cs v1 (N := 48) (by decide) with h | ⟨a, ha, rfl⟩
  · unfold wpX_next wpY_next
    dsimp only
    refine oc_xV0 h (br_t rfl ?_)
    refine oc_yV0 h ?_
    exact br_f (by decide) ⟨rfl, oc_R hn ok⟩
  · refine oc_xnext ha hn ok ?_
    refine oc_ynext ha hn ok ?_
    exact ⟨rfl, oc_R hn ok⟩
theorem i_vc_best {k : Nat} {u : SX} {v : SY} (I : i_Rel k u v) (hk : k + 4 ≤ 2048) (v1 : Int32) : wpX_best (fun r => wpY_best (fun r' => r' = r ∧ i_Rel (k + 4) u v) v v1) u v1 := by
  obtain ⟨n, p, m, hn, ok, rfl, rfl⟩ := I
  unfold wpX_best wpY_best
  dsimp only
  rcases oc_cs v1 (N := 48) (by decide) with h | ⟨a, ha, rfl⟩
  · refine oc_xV0 h (br_t rfl ?_)
    refine oc_yV0 h ?_
    exact br_f (by decide) ⟨rfl, oc_R hn ok⟩
  · refine oc_xV1 ha (br_f (by decide) ?_)
    refine ⟨n + 1, oc_xbest17 ha hn ok (fun f s hb => ?_) n 0 (-2) 0 (by omega) (Or.inl ⟨rfl, rfl, fun q hq => absurd (show false = true from hq) (by decide)⟩)⟩
    refine oc_yV1 ha (br_t rfl ?_)
    refine oc_ynext ha hn ok ?_
    refine ⟨193, oc_ybest23 ha hn ok (fun f' s' hb' => ?_) 192 0 (-1) (-2) 0 (by omega) (by omega) oc_af_0 (Or.inl ⟨rfl, rfl, fun q hq => absurd hq.2 (Nat.not_lt_zero q)⟩)⟩
    exact ⟨oc_bp_u (fun q => Iff.rfl) hb hb', oc_R hn ok⟩
theorem i_vc_having {k : Nat} {u : SX} {v : SY} (I : i_Rel k u v) (hk : k + 4 ≤ 2048) (v1 : Int32) (v2 : Int32) : wpX_having (fun r => wpY_having (fun r' => r' = r ∧ i_Rel (k + 4) u v) v v1 v2) u v1 v2 := by
  obtain ⟨n, p, m, hn, ok, rfl, rfl⟩ := I
  unfold wpX_having wpY_having
  dsimp only
  rcases oc_cs v1 (N := 48) (by decide) with h | ⟨a, ha, rfl⟩
  · refine oc_xV0 h (br_t rfl ?_)
    refine oc_yV0 h ?_
    exact br_f (by decide) ⟨rfl, oc_R hn ok⟩
  · refine oc_xV1 ha (br_f (by decide) ?_)
    refine ⟨n + 1, oc_xhv14 ha hn ok ?_ n 0 (by omega)⟩
    refine oc_yV1 ha (br_t rfl ?_)
    refine oc_ynext ha hn ok ?_
    refine ⟨193, oc_yhv20 ha hn ok 192 0 0 (-1) (by omega) (by omega) oc_af_0 ?_⟩
    rw [Nat.zero_add, oc_fc_D n (oc_ok_c a ok)]
    exact ⟨rfl, oc_R hn ok⟩
theorem i_vc_finer {k : Nat} {u : SX} {v : SY} (I : i_Rel k u v) (hk : k + 4 ≤ 2048) (v1 : Int32) (v2 : Int32) : wpX_finer (fun r => wpY_finer (fun r' => r' = r ∧ i_Rel (k + 4) u v) v v1 v2) u v1 v2 := by
  obtain ⟨n, p, m, hn, ok, rfl, rfl⟩ := I
  rcases oc_cs v1 (N := 48) (by decide) with h | ⟨a, ha, rfl⟩
  · unfold wpX_finer wpY_finer
    dsimp only
    refine oc_xV0 h (br_t rfl ?_)
    refine oc_yV0 h ?_
    exact br_f (by decide) ⟨rfl, oc_R hn ok⟩
  · rcases oc_cs v2 (N := 48) (by decide) with h | ⟨b, hb, rfl⟩
    · unfold wpX_finer wpY_finer
      dsimp only
      refine oc_xV1 ha (br_f (by decide) ?_)
      refine oc_xV0 h (br_t rfl ?_)
      refine oc_yV1 ha (br_t rfl ?_)
      refine oc_yV0 h ?_
      exact br_f (by decide) ⟨rfl, oc_R hn ok⟩
    · refine oc_xfin ha hb (fun z => ?_) (fun z => ?_)
      · exact oc_yfin ha hb (fun _ => ⟨rfl, oc_R hn ok⟩) (fun w => absurd z w)
      · exact oc_yfin ha hb (fun w => absurd w z) (fun _ => ⟨rfl, oc_R hn ok⟩)
theorem i_vc_viewsWith {k : Nat} {u : SX} {v : SY} (I : i_Rel k u v) (hk : k + 4 ≤ 2048) (v1 : Int32) : wpX_viewsWith (fun r => wpY_viewsWith (fun r' => r' = r ∧ i_Rel (k + 4) u v) v v1) u v1 := by
  obtain ⟨n, p, m, hn, ok, rfl, rfl⟩ := I
  unfold wpX_viewsWith wpY_viewsWith
  dsimp only
  by_cases h0 : v1 < 0
  · exact br_t h0 (br_t h0 ⟨rfl, oc_R hn ok⟩)
  · by_cases h1 : v1 ≤ 192
    · refine br_f h0 (br_t h1 ⟨49, oc_xvw hn ok ?_ 48 0 (by omega)⟩)
      refine br_f h0 (br_t h1 ⟨49, oc_yvw hn ok ?_ 48 0 (by omega)⟩)
      exact ⟨rfl, oc_R hn ok⟩
    · exact br_f h0 (br_f h1 (br_f h0 (br_f h1 ⟨rfl, oc_R hn ok⟩)))
end
