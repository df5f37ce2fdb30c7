def oc_A (l a : Nat) : Nat := if l = 0 then a else if l = 1 then a / 2 else 0
def oc_B (l b : Nat) : Nat := if l = 0 then b else if l = 1 then b / 2 else if l = 2 then b / 3 else 0
def oc_C (l c : Nat) : Nat := if l = 0 then c else if l = 1 then c / 2 else if l = 2 then c / 4 else 0
def oc_cl (v p : Nat) : Nat := 48 * oc_A (v / 16) (p / 48) + 8 * oc_B (v / 4 % 4) (p / 8 % 6) + oc_C (v % 4) (p % 8)
theorem oc_A_lt {l a : Nat} (h : a < 4) : oc_A l a < 4 := by
  unfold oc_A
  split
  · exact h
  · split
    · omega
    · omega
theorem oc_B_lt {l b : Nat} (h : b < 6) : oc_B l b < 6 := by
  unfold oc_B
  split
  · exact h
  · split
    · omega
    · split
      · omega
      · omega
theorem oc_C_lt {l c : Nat} (h : c < 8) : oc_C l c < 8 := by
  unfold oc_C
  split
  · exact h
  · split
    · omega
    · split
      · omega
      · omega
theorem oc_cl_lt {v p : Nat} (h : p < 192) : oc_cl v p < 192 := by
  have a := oc_A_lt (l := v / 16) (a := p / 48) (by omega)
  have b := oc_B_lt (l := v / 4 % 4) (b := p / 8 % 6) (by omega)
  have c := oc_C_lt (l := v % 4) (c := p % 8) (by omega)
  unfold oc_cl
  omega
theorem oc_b68 {p : Nat} : p % 48 / 8 = p / 8 % 6 := by omega
theorem oc_d16 {v : Nat} (h : v < 192) : nI v / 16 = nI (v / 16) := pk_div (d := 16) (by omega) (by decide) (by decide)
theorem oc_d48 {v : Nat} (h : v < 192) : nI v / 48 = nI (v / 48) := pk_div (d := 48) (by omega) (by decide) (by decide)
theorem oc_d8 {v : Nat} (h : v < 192) : nI v / 8 = nI (v / 8) := pk_div (d := 8) (by omega) (by decide) (by decide)
theorem oc_d4 {v : Nat} (h : v < 192) : nI v / 4 = nI (v / 4) := pk_div (d := 4) (by omega) (by decide) (by decide)
theorem oc_d3 {v : Nat} (h : v < 192) : nI v / 3 = nI (v / 3) := pk_div (d := 3) (by omega) (by decide) (by decide)
theorem oc_d2 {v : Nat} (h : v < 192) : nI v / 2 = nI (v / 2) := pk_div (d := 2) (by omega) (by decide) (by decide)
theorem oc_r48 {v : Nat} (h : v < 192) : nI v - nI v / 48 * 48 = nI (v % 48) := pk_rem (d := 48) (by omega) (by decide) (by decide)
theorem oc_r8 {v : Nat} (h : v < 192) : nI v - nI v / 8 * 8 = nI (v % 8) := pk_rem (d := 8) (by omega) (by decide) (by decide)
theorem oc_r6 {v : Nat} (h : v < 192) : nI v - nI v / 6 * 6 = nI (v % 6) := pk_rem (d := 6) (by omega) (by decide) (by decide)
theorem oc_r4 {v : Nat} (h : v < 192) : nI v - nI v / 4 * 4 = nI (v % 4) := pk_rem (d := 4) (by omega) (by decide) (by decide)
theorem oc_mk (a b c : Nat) : (48 * nI a + 8 * nI b) + nI c = nI (48 * a + 8 * b + c) := by
  have h1 : (48 : Int32) * nI a = nI (48 * a) := pk_mul 48 a
  have h2 : (8 : Int32) * nI b = nI (8 * b) := pk_mul 8 b
  rw [h1, h2, nI_add, nI_add]
theorem oc_mk' (a b c : Nat) : 48 * nI a + (8 * nI b + nI c) = nI (48 * a + 8 * b + c) := by
  rw [← oc_mk, Int32.add_assoc]
def oc_fn (f g : Nat) : Prop := f / 16 ≤ g / 16 ∧ (f / 4 % 4 = 0 ∨ g / 4 % 4 = 3 ∨ f / 4 % 4 = g / 4 % 4) ∧ f % 4 ≤ g % 4
def oc_bad (f g p q : Nat) : Prop := oc_cl f q = oc_cl f p ∧ oc_cl g q ≠ oc_cl g p
theorem oc_tA : ∀ l : Fin 3, ∀ k : Fin 3, l.val ≤ k.val → ∀ a b : Fin 4, oc_A l.val a.val = oc_A l.val b.val → oc_A k.val a.val = oc_A k.val b.val := by decide +kernel
theorem oc_tB : ∀ l : Fin 4, ∀ k : Fin 4, (l.val = 0 ∨ k.val = 3 ∨ l.val = k.val) → ∀ a b : Fin 6, oc_B l.val a.val = oc_B l.val b.val → oc_B k.val a.val = oc_B k.val b.val := by decide +kernel
theorem oc_tC : ∀ l : Fin 4, ∀ k : Fin 4, l.val ≤ k.val → ∀ a b : Fin 8, oc_C l.val a.val = oc_C l.val b.val → oc_C k.val a.val = oc_C k.val b.val := by decide +kernel
theorem oc_uA : ∀ l : Fin 3, ∀ k : Fin 3, ¬ l.val ≤ k.val → ∃ a b : Fin 4, a.val < b.val ∧ oc_A l.val a.val = oc_A l.val b.val ∧ oc_A k.val a.val ≠ oc_A k.val b.val := by decide +kernel
theorem oc_uB : ∀ l : Fin 4, ∀ k : Fin 4, ¬ (l.val = 0 ∨ k.val = 3 ∨ l.val = k.val) → ∃ a b : Fin 6, a.val < b.val ∧ oc_B l.val a.val = oc_B l.val b.val ∧ oc_B k.val a.val ≠ oc_B k.val b.val := by decide +kernel
theorem oc_uC : ∀ l : Fin 4, ∀ k : Fin 4, ¬ l.val ≤ k.val → ∃ a b : Fin 8, a.val < b.val ∧ oc_C l.val a.val = oc_C l.val b.val ∧ oc_C k.val a.val ≠ oc_C k.val b.val := by decide +kernel
theorem oc_cl_inj {v p q : Nat} (hp : p < 192) (hq : q < 192) (h : oc_cl v q = oc_cl v p) : oc_A (v / 16) (q / 48) = oc_A (v / 16) (p / 48) ∧ oc_B (v / 4 % 4) (q / 8 % 6) = oc_B (v / 4 % 4) (p / 8 % 6) ∧ oc_C (v % 4) (q % 8) = oc_C (v % 4) (p % 8) := by
  have a1 := oc_A_lt (l := v / 16) (a := p / 48) (by omega)
  have b1 := oc_B_lt (l := v / 4 % 4) (b := p / 8 % 6) (by omega)
  have c1 := oc_C_lt (l := v % 4) (c := p % 8) (by omega)
  have a2 := oc_A_lt (l := v / 16) (a := q / 48) (by omega)
  have b2 := oc_B_lt (l := v / 4 % 4) (b := q / 8 % 6) (by omega)
  have c2 := oc_C_lt (l := v % 4) (c := q % 8) (by omega)
  unfold oc_cl at h
  generalize oc_A (v / 16) (q / 48) = x1 at *
  generalize oc_A (v / 16) (p / 48) = x2 at *
  generalize oc_B (v / 4 % 4) (q / 8 % 6) = y1 at *
  generalize oc_B (v / 4 % 4) (p / 8 % 6) = y2 at *
  generalize oc_C (v % 4) (q % 8) = z1 at *
  generalize oc_C (v % 4) (p % 8) = z2 at *
  omega
theorem oc_fn_t {f g : Nat} (hf : f < 48) (hg : g < 48) (h : oc_fn f g) {p q : Nat} (hp : p < 192) (hq : q < 192) : ¬ oc_bad f g p q := by
  rintro ⟨h1, h2⟩
  apply h2
  obtain ⟨ea, eb, ec⟩ := oc_cl_inj hp hq h1
  have wa := oc_tA ⟨f / 16, by omega⟩ ⟨g / 16, by omega⟩ h.1 ⟨q / 48, by omega⟩ ⟨p / 48, by omega⟩ ea
  have wb := oc_tB ⟨f / 4 % 4, by omega⟩ ⟨g / 4 % 4, by omega⟩ h.2.1 ⟨q / 8 % 6, by omega⟩ ⟨p / 8 % 6, by omega⟩ eb
  have wc := oc_tC ⟨f % 4, by omega⟩ ⟨g % 4, by omega⟩ h.2.2 ⟨q % 8, by omega⟩ ⟨p % 8, by omega⟩ ec
  dsimp only at wa wb wc
  unfold oc_cl
  rw [wa, wb, wc]
theorem oc_cl_abc {v a b c : Nat} (hb : b < 6) (hc : c < 8) : oc_cl v (48 * a + 8 * b + c) = 48 * oc_A (v / 16) a + 8 * oc_B (v / 4 % 4) b + oc_C (v % 4) c := by
  unfold oc_cl
  rw [show (48 * a + 8 * b + c) / 48 = a from by omega, show (48 * a + 8 * b + c) / 8 % 6 = b from by omega, show (48 * a + 8 * b + c) % 8 = c from by omega]
theorem oc_fn_f {f g : Nat} (hf : f < 48) (hg : g < 48) (h : ¬ oc_fn f g) : ∃ p q : Nat, p < 192 ∧ q < p ∧ oc_bad f g p q := by
  by_cases h1 : f / 16 ≤ g / 16
  · by_cases h2 : f / 4 % 4 = 0 ∨ g / 4 % 4 = 3 ∨ f / 4 % 4 = g / 4 % 4
    · have h3 : ¬ f % 4 ≤ g % 4 := fun z => h ⟨h1, h2, z⟩
      obtain ⟨a, b, hab, e1, e2⟩ := oc_uC ⟨f % 4, by omega⟩ ⟨g % 4, by omega⟩ h3
      have ha := a.isLt
      have hb := b.isLt
      refine ⟨48 * 0 + 8 * 0 + b.val, 48 * 0 + 8 * 0 + a.val, by omega, by omega, ?_, ?_⟩
      · rw [oc_cl_abc (by omega) ha, oc_cl_abc (by omega) hb]
        have e1' : oc_C (f % 4) a.val = oc_C (f % 4) b.val := e1
        omega
      · rw [oc_cl_abc (by omega) ha, oc_cl_abc (by omega) hb]
        have e2' : oc_C (g % 4) a.val ≠ oc_C (g % 4) b.val := e2
        omega
    · obtain ⟨a, b, hab, e1, e2⟩ := oc_uB ⟨f / 4 % 4, by omega⟩ ⟨g / 4 % 4, by omega⟩ h2
      have ha := a.isLt
      have hb := b.isLt
      refine ⟨48 * 0 + 8 * b.val + 0, 48 * 0 + 8 * a.val + 0, by omega, by omega, ?_, ?_⟩
      · rw [oc_cl_abc ha (by omega), oc_cl_abc hb (by omega)]
        have e1' : oc_B (f / 4 % 4) a.val = oc_B (f / 4 % 4) b.val := e1
        omega
      · rw [oc_cl_abc ha (by omega), oc_cl_abc hb (by omega)]
        have e2' : oc_B (g / 4 % 4) a.val ≠ oc_B (g / 4 % 4) b.val := e2
        omega
  · obtain ⟨a, b, hab, e1, e2⟩ := oc_uA ⟨f / 16, by omega⟩ ⟨g / 16, by omega⟩ h1
    have ha := a.isLt
    have hb := b.isLt
    refine ⟨48 * b.val + 8 * 0 + 0, 48 * a.val + 8 * 0 + 0, by omega, by omega, ?_, ?_⟩
    · rw [oc_cl_abc (by omega) (by omega), oc_cl_abc (by omega) (by omega)]
      have e1' : oc_A (f / 16) a.val = oc_A (f / 16) b.val := e1
      omega
    · rw [oc_cl_abc (by omega) (by omega), oc_cl_abc (by omega) (by omega)]
      have e2' : oc_A (g / 16) a.val ≠ oc_A (g / 16) b.val := e2
      omega
def oc_sm (c : Nat → Nat) (m : Nat → Int32) (x : Nat) : Nat → Int32
  | 0 => 0
  | n + 1 => if c n = x then oc_sm c m x n + m n else oc_sm c m x n
def oc_g (p : Nat → Int32) (j : Nat) : Nat := (p j).toNatClampNeg
def oc_c (v : Nat) (p : Nat → Int32) (j : Nat) : Nat := oc_cl v (oc_g p j)
def oc_ok (p : Nat → Int32) (n : Nat) : Prop := ∀ j, j < n → ∃ q : Nat, q < 192 ∧ p j = nI q
theorem oc_ok_g {p : Nat → Int32} {n j : Nat} (h : oc_ok p n) (hj : j < n) : oc_g p j < 192 ∧ p j = nI (oc_g p j) := by
  obtain ⟨q, hq, e⟩ := h j hj
  have w : oc_g p j = q := by
    unfold oc_g
    rw [e]
    exact nI_clamp (by omega)
  rw [w]
  exact ⟨hq, e⟩
theorem oc_ok_c {p : Nat → Int32} {n : Nat} (v : Nat) (h : oc_ok p n) : ∀ j, j < n → oc_c v p j < 192 := fun _ hj => oc_cl_lt (oc_ok_g h hj).1
theorem oc_ok_le {p : Nat → Int32} {n m : Nat} (h : oc_ok p n) (hm : m ≤ n) : oc_ok p m := fun j hj => h j (by omega)
theorem oc_ok_u {p : Nat → Int32} {n k q : Nat} {x : Int32} (h : oc_ok p n) (hq : q < 192) (hx : x = nI q) : oc_ok (upd p k x) n := by
  intro j hj
  by_cases e : j = k
  · subst e
    exact ⟨q, hq, by rw [pk_us, hx]⟩
  · rw [pk_un e]
    exact h j hj
theorem oc_ok_a {p : Nat → Int32} {n q : Nat} {x : Int32} (h : oc_ok p n) (hq : q < 192) (hx : x = nI q) : oc_ok (upd p n x) (n + 1) := by
  intro j hj
  by_cases e : j = n
  · subst e
    exact ⟨q, hq, by rw [pk_us, hx]⟩
  · rw [pk_un e]
    exact h j (by omega)
theorem oc_ok_s {p : Nat → Int32} {n i : Nat} (h : oc_ok p n) (hi : i + 1 < n) : oc_ok (upd p i (p (i + 1))) n := by
  obtain ⟨q, hq, e⟩ := h (i + 1) hi
  exact oc_ok_u h hq e
