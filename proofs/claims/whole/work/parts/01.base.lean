/-! numbers, ranges, sums, words: no predicate of the print here -/
theorem pk_us {f : Nat → Int32} {k : Nat} {x : Int32} : upd f k x k = x := if_pos rfl
theorem pk_un {f : Nat → Int32} {k j : Nat} {x : Int32} (h : j ≠ k) : upd f k x j = f j := if_neg h
theorem pk_sub {a b : Nat} (h : b ≤ a) : nI a - nI b = nI (a - b) := by
  obtain ⟨c, rfl⟩ : ∃ c, a = c + b := ⟨a - b, by omega⟩
  rw [← nI_add, Int32.add_sub_cancel, Nat.add_sub_cancel]
theorem pk_m1 (n : Nat) : nI (n + 1) + (-1) = nI n := by
  rw [← nI_1, Int32.add_assoc, show (1 : Int32) + (-1) = 0 from rfl, Int32.add_zero]
theorem pk_mul (a b : Nat) : nI a * nI b = nI (a * b) := (Int32.ofNat_mul a b).symm
theorem pk_ix (x : Int32) {n : Nat} (hn : n < 2 ^ 31) : x < 0 ∨ nI n ≤ x ∨ ∃ j : Nat, j < n ∧ x = nI j := by
  by_cases h : x < 0
  · exact Or.inl h
  · obtain ⟨j, hj, rfl⟩ := nI_of h
    by_cases h2 : j < n
    · exact Or.inr (Or.inr ⟨j, h2, rfl⟩)
    · exact Or.inr (Or.inl (nI_le (by omega) hj))
theorem ic_16t : (16 : Int32) ≤ nI 16 := nI_le (Nat.le_refl 16) (by decide)
theorem ic_16f {i : Nat} (h : i < 16) : ¬ (16 : Int32) ≤ nI i := nI_ge (b := 16) h (by decide)
theorem ic_ix (l c : Nat) : nI l * 16 + nI c = nI (16 * l + c) := by
  show nI l * nI 16 + nI c = _
  rw [pk_mul, nI_add, Nat.mul_comm]
theorem ic_iy (l c : Nat) : 16 * nI l + nI c = nI (16 * l + c) := by
  show nI 16 * nI l + nI c = _
  rw [pk_mul, nI_add]
theorem ic_ix1 (l c : Nat) : (nI (l + 1) - 1) * 16 + nI c = nI (16 * l + c) := by rw [nI_pred, ic_ix]
theorem ic_iy1 (l c : Nat) : 16 * (nI (l + 1) - 1) + nI c = nI (16 * l + c) := by rw [nI_pred, ic_iy]
theorem ic_m1 (x : Int32) : x + (-1) = x - 1 := (Int32.sub_eq_add_neg x 1).symm
theorem ic_n0 : vp_nar .boolean 0 = 0 := by decide +kernel
theorem ic_n1 : vp_nar .boolean 1 = 1 := by decide +kernel
theorem ic_n {x : Int32} (h : x = 0 ∨ x = 1) : vp_nar .boolean x = x := by
  cases h with
  | inl h => rw [h]; exact ic_n0
  | inr h => rw [h]; exact ic_n1
theorem ic_10 : ¬ (1 : Int32) = 0 := by decide
/-- the array that holds p from lo to hi, else g -/
def ic_rg (lo hi : Nat) (p g : Nat → Int32) : Nat → Int32 := fun j => if lo ≤ j ∧ j < hi then p j else g j
theorem ic_rg_in {lo hi j : Nat} {p g : Nat → Int32} (h1 : lo ≤ j) (h2 : j < hi) : ic_rg lo hi p g j = p j := if_pos ⟨h1, h2⟩
theorem ic_rg_out {lo hi j : Nat} {p g : Nat → Int32} (h : j < lo ∨ hi ≤ j) : ic_rg lo hi p g j = g j := if_neg (by omega)
theorem ic_rg_0 {lo : Nat} {p g : Nat → Int32} : ic_rg lo lo p g = g := funext fun j => ic_rg_out (by omega)
theorem ic_rg_z {lo : Nat} {p g : Nat → Int32} : ic_rg lo (lo + 0) p g = g := ic_rg_0
theorem ic_rg_st {lo n : Nat} {p g : Nat → Int32} {x : Int32} (h : lo ≤ n) (hx : x = p n) : upd (ic_rg lo n p g) n x = ic_rg lo (n + 1) p g := by
  funext j
  by_cases e : j = n
  · subst e
    rw [pk_us, ic_rg_in h (by omega), hx]
  · rw [pk_un e]
    by_cases h1 : lo ≤ j ∧ j < n
    · rw [ic_rg_in h1.1 h1.2, ic_rg_in h1.1 (by omega)]
    · rw [ic_rg_out (by omega), ic_rg_out (by omega)]
theorem ic_rg_end {lo n m : Nat} {p g : Nat → Int32} (hn : n ≤ m) (h : ∀ k, n ≤ k → k < m → p k = g k) : ic_rg lo n p g = ic_rg lo m p g := by
  funext j
  by_cases h1 : lo ≤ j ∧ j < n
  · rw [ic_rg_in h1.1 h1.2, ic_rg_in h1.1 (by omega)]
  · rw [ic_rg_out (by omega)]
    by_cases h2 : lo ≤ j ∧ j < m
    · rw [ic_rg_in h2.1 h2.2, h j (by omega) h2.2]
    · rw [ic_rg_out (by omega)]
theorem ic_rg_k {lo n : Nat} {p g : Nat → Int32} (hx : p n = g n) : ic_rg lo n p g = ic_rg lo (n + 1) p g := by
  refine ic_rg_end (by omega) fun k h1 h2 => ?_
  obtain rfl : k = n := by omega
  exact hx
theorem ic_rg_nop {lo hi : Nat} {p g : Nat → Int32} (h : ∀ k, lo ≤ k → k < hi → p k = g k) : ic_rg lo hi p g = g := by
  funext j
  by_cases h1 : lo ≤ j ∧ j < hi
  · rw [ic_rg_in h1.1 h1.2, h j h1.1 h1.2]
  · rw [ic_rg_out (by omega)]
theorem ic_rg_cong {lo hi : Nat} {p p' g : Nat → Int32} (h : ∀ k, lo ≤ k → k < hi → p k = p' k) : ic_rg lo hi p g = ic_rg lo hi p' g := by
  funext j
  by_cases h1 : lo ≤ j ∧ j < hi
  · rw [ic_rg_in h1.1 h1.2, ic_rg_in h1.1 h1.2, h j h1.1 h1.2]
  · rw [ic_rg_out (by omega), ic_rg_out (by omega)]
theorem ic_rg_eq {lo hi lo' hi' j : Nat} {p g : Nat → Int32} (h : (lo ≤ j ∧ j < hi) ↔ (lo' ≤ j ∧ j < hi')) : ic_rg lo hi p g j = ic_rg lo' hi' p g j := by
  by_cases h1 : lo ≤ j ∧ j < hi
  · have h2 := h.mp h1
    rw [ic_rg_in h1.1 h1.2, ic_rg_in h2.1 h2.2]
  · have h2 : ¬ (lo' ≤ j ∧ j < hi') := fun z => h1 (h.mpr z)
    rw [ic_rg_out (by omega), ic_rg_out (by omega)]
theorem ic_rg_up {lo hi n : Nat} {p g : Nat → Int32} {x : Int32} (h : n < lo ∨ hi ≤ n) : upd (ic_rg lo hi p g) n x = ic_rg lo hi p (upd g n x) := by
  funext j
  by_cases e : j = n
  · subst e
    rw [pk_us, ic_rg_out h, pk_us]
  · rw [pk_un e]
    by_cases h1 : lo ≤ j ∧ j < hi
    · rw [ic_rg_in h1.1 h1.2, ic_rg_in h1.1 h1.2]
    · rw [ic_rg_out (by omega), ic_rg_out (by omega), pk_un e]
theorem ic_rg_01 {lo hi : Nat} {p g : Nat → Int32} (hp : ∀ j, lo ≤ j → j < hi → p j = 0 ∨ p j = 1) (hg : ∀ j, g j = 0 ∨ g j = 1) : ∀ j, ic_rg lo hi p g j = 0 ∨ ic_rg lo hi p g j = 1 := by
  intro j
  by_cases h1 : lo ≤ j ∧ j < hi
  · rw [ic_rg_in h1.1 h1.2]
    exact hp j h1.1 h1.2
  · rw [ic_rg_out (by omega)]
    exact hg j
/-- the sum of the first n -/
def ic_s (f : Nat → Int32) : Nat → Int32
  | 0 => 0
  | n + 1 => ic_s f n + f n
theorem ic_s_cong {f g : Nat → Int32} : ∀ n, (∀ k, k < n → f k = g k) → ic_s f n = ic_s g n := by
  intro n
  induction n with
  | zero => intro _; rfl
  | succ n ih =>
    intro h
    show ic_s f n + f n = ic_s g n + g n
    rw [ih fun k hk => h k (by omega), h n (by omega)]
theorem ic_s_z {f : Nat → Int32} {a : Nat} : ∀ b, (∀ k, a ≤ k → k < a + b → f k = 0) → ic_s f (a + b) = ic_s f a := by
  intro b
  induction b with
  | zero => intro _; rfl
  | succ b ih =>
    intro h
    show ic_s f (a + b) + f (a + b) = ic_s f a
    rw [ih fun k h1 h2 => h k h1 (by omega), h (a + b) (by omega) (by omega), Int32.add_zero]
theorem ic_s_k {f : Nat → Int32} {n : Nat} (h : f n = 0) : ic_s f n = ic_s f (n + 1) := by
  show ic_s f n = ic_s f n + f n
  rw [h, Int32.add_zero]
theorem ic_s_1 {f : Nat → Int32} {n : Nat} (h : f n = 1) : ic_s f n + 1 = ic_s f (n + 1) := by
  show ic_s f n + 1 = ic_s f n + f n
  rw [h]
def ic_d (f g : Nat → Int32) : Nat → Int32 := fun k => if f k = g k then 0 else 1
def ic_b (f : Nat → Int32) : Nat → Int32 := fun k => if f k = 0 then 0 else 1
def ic_m (f g mk : Nat → Int32) : Nat → Int32 := fun k => if f k = g k then mk k else 1
theorem ic_d0 {f g : Nat → Int32} {k : Nat} (h : f k = g k) : ic_d f g k = 0 := if_pos h
theorem ic_d1 {f g : Nat → Int32} {k : Nat} (h : ¬ f k = g k) : ic_d f g k = 1 := if_neg h
theorem ic_b0 {f : Nat → Int32} {k : Nat} (h : f k = 0) : ic_b f k = 0 := if_pos h
theorem ic_b1 {f : Nat → Int32} {k : Nat} (h : ¬ f k = 0) : ic_b f k = 1 := if_neg h
theorem ic_b_cong {f g : Nat → Int32} {k : Nat} (h : f k = g k) : ic_b f k = ic_b g k := by
  unfold ic_b
  rw [h]
theorem ic_m0 {f g mk : Nat → Int32} {k : Nat} (h : f k = g k) : ic_m f g mk k = mk k := if_pos h
theorem ic_m1' {f g mk : Nat → Int32} {k : Nat} (h : ¬ f k = g k) : ic_m f g mk k = 1 := if_neg h
/-- marks after the words went from f to g; how many differ -/
def ic_M (f g mk : Nat → Int32) : Nat → Int32 := ic_rg 0 16 (ic_m f g mk) mk
def ic_D (f g : Nat → Int32) : Int32 := ic_s (ic_d f g) 16
theorem ic_M_cong {f g f' g' mk : Nat → Int32} (h : ∀ k, k < 16 → f k = f' k ∧ g k = g' k) : ic_M f g mk = ic_M f' g' mk := by
  refine ic_rg_cong fun k _ hk => ?_
  obtain ⟨h1, h2⟩ := h k hk
  unfold ic_m
  rw [h1, h2]
theorem ic_D_cong {f g f' g' : Nat → Int32} (h : ∀ k, k < 16 → f k = f' k ∧ g k = g' k) : ic_D f g = ic_D f' g' := by
  refine ic_s_cong 16 fun k hk => ?_
  obtain ⟨h1, h2⟩ := h k hk
  unfold ic_d
  rw [h1, h2]
theorem ic_D_comm (f g : Nat → Int32) : ic_D f g = ic_D g f := by
  refine ic_s_cong 16 fun k _ => ?_
  by_cases h : f k = g k
  · rw [ic_d0 h, ic_d0 h.symm]
  · rw [ic_d1 h, ic_d1 fun z => h z.symm]
/-- the word of cluster c in the lowest L images -/
def ic_w (s w : Nat → Int32) : Nat → Nat → Int32
  | 0, _ => 0
  | i + 1, c => if s (16 * i + c) = 0 then ic_w s w i c else w (16 * i + c)
theorem ic_w0 {s w : Nat → Int32} {i c : Nat} (h : s (16 * i + c) = 0) : ic_w s w (i + 1) c = ic_w s w i c := if_pos h
theorem ic_w1 {s w : Nat → Int32} {i c : Nat} (h : ¬ s (16 * i + c) = 0) : ic_w s w (i + 1) c = w (16 * i + c) := if_neg h
theorem ic_w_cong {s w s' w' : Nat → Int32} {c : Nat} : ∀ L, (∀ i, i < L → s (16 * i + c) = s' (16 * i + c) ∧ (s (16 * i + c) ≠ 0 → w (16 * i + c) = w' (16 * i + c))) → ic_w s w L c = ic_w s' w' L c := by
  intro L
  induction L with
  | zero => intro _; rfl
  | succ n ih =>
    intro h
    obtain ⟨h1, h2⟩ := h n (by omega)
    by_cases z : s (16 * n + c) = 0
    · rw [ic_w0 z, ic_w0 (h1 ▸ z)]
      exact ih fun i hi => h i (by omega)
    · rw [ic_w1 z, ic_w1 (h1 ▸ z)]
      exact h2 z
theorem ic_Vb {l a i : Nat} {p q s w : Nat → Int32} (hi : i < 16) : ic_w (ic_rg (16 * l + a) (16 * l + i) p s) (ic_rg (16 * l + a) (16 * l + i) q w) (l + 1) i = ic_w s w (l + 1) i :=
  ic_w_cong _ fun k hk => ⟨ic_rg_out (by omega), fun _ => ic_rg_out (by omega)⟩
theorem ic_Va {l a i b : Nat} {p q s w : Nat → Int32} (hi : i < b) (hb : b ≤ 16) : ic_w (ic_rg (16 * l + a) (16 * l + (i + 1)) p s) (ic_rg (16 * l + a) (16 * l + (i + 1)) q w) (l + 1) i = ic_w (ic_rg (16 * l + a) (16 * l + b) p s) (ic_rg (16 * l + a) (16 * l + b) q w) (l + 1) i :=
  ic_w_cong _ fun k hk => ⟨ic_rg_eq (by omega), fun _ => ic_rg_eq (by omega)⟩
theorem ic_Vo {l a c b : Nat} {p q s w : Nat → Int32} (hc : c < 16) (h : c < a ∨ b ≤ c) : ic_w s w (l + 1) c = ic_w (ic_rg (16 * l + a) (16 * l + b) p s) (ic_rg (16 * l + a) (16 * l + b) q w) (l + 1) c :=
  (ic_w_cong _ fun k hk => ⟨ic_rg_out (by omega), fun _ => ic_rg_out (by omega)⟩).symm
/-- what a put in the top's clusters a .. b leaves of sums and marks outside them -/
theorem ic_e1 {f g : Nat → Int32} {a b : Nat} (ha : a ≤ 16) (h : ∀ c, c < 16 → c < a ∨ b ≤ c → f c = g c) : ic_s (ic_d f g) a = 0 := by
  have e := ic_s_z (f := ic_d f g) (a := 0) a fun k _ hk => ic_d0 (h k (by omega) (Or.inl (by omega)))
  rw [Nat.zero_add] at e
  exact e
theorem ic_e2 {f g : Nat → Int32} {a b : Nat} (hb : b ≤ 16) (h : ∀ c, c < 16 → c < a ∨ b ≤ c → f c = g c) : ic_s (ic_d f g) b = ic_D f g := by
  have e := ic_s_z (f := ic_d f g) (a := b) (16 - b) fun k h1 hk => ic_d0 (h k (by omega) (Or.inr h1))
  rw [show b + (16 - b) = 16 by omega] at e
  exact e.symm
theorem ic_e3 {f g mk : Nat → Int32} {a b : Nat} (ha : a ≤ 16) (h : ∀ c, c < 16 → c < a ∨ b ≤ c → f c = g c) : ic_rg 0 a (ic_m f g mk) mk = mk :=
  ic_rg_nop fun k _ hk => ic_m0 (h k (by omega) (Or.inl hk))
theorem ic_e4 {f g mk : Nat → Int32} {a b : Nat} (hb : b ≤ 16) (h : ∀ c, c < 16 → c < a ∨ b ≤ c → f c = g c) : ic_rg 0 b (ic_m f g mk) mk = ic_M f g mk :=
  ic_rg_end hb fun k h1 hk => ic_m0 (h k hk (Or.inr h1))
