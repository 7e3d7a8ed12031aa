section
/-! numbers, ranges, sums, words: no predicate of the print here -/
theorem pk_us {f : Nat → Int32} {k : Nat} {x : Int32} : upd f k x k = x := if_pos rfl
theorem pk_un {f : Nat → Int32} {k j : Nat} {x : Int32} (h : j ≠ k) : upd f k x j = f j := if_neg h
theorem pk_sub {a b : Nat} (h : b ≤ a) : nI a - nI b = nI (a - b) := by
  obtain ⟨c, rfl⟩ : ∃ c, a = c + b := ⟨a - b, by omega⟩
  rw [← nI_add, Int32.add_sub_cancel, Nat.add_sub_cancel]
theorem pk_m1 (n : Nat) : nI (n + 1) + (-1) = nI n := by
  rw [← nI_1, Int32.add_assoc, show (1 : Int32) + (-1) = 0 from rfl, Int32.add_zero]
theorem pk_mul (a b : Nat) : nI a * nI b = nI (a * b) := (Int32.ofNat_mul a b).symm
theorem pk_ix (x : Int32) {n : Nat} (hn : n < 2 ^ 31) : x < 0 ∨ nI n ≤ x ∨ ∃ j : Nat, j < n ∧ x = nI j := by
  by_cases h : x < 0
  · exact Or.inl h
  · obtain ⟨j, hj, rfl⟩ := nI_of h
    by_cases h2 : j < n
    · exact Or.inr (Or.inr ⟨j, h2, rfl⟩)
    · exact Or.inr (Or.inl (nI_le (by omega) hj))
theorem ic_16t : (16 : Int32) ≤ nI 16 := nI_le (Nat.le_refl 16) (by decide)
theorem ic_16f {i : Nat} (h : i < 16) : ¬ (16 : Int32) ≤ nI i := nI_ge (b := 16) h (by decide)
theorem ic_ix (l c : Nat) : nI l * 16 + nI c = nI (16 * l + c) := by
  show nI l * nI 16 + nI c = _
  rw [pk_mul, nI_add, Nat.mul_comm]
theorem ic_iy (l c : Nat) : 16 * nI l + nI c = nI (16 * l + c) := by
  show nI 16 * nI l + nI c = _
  rw [pk_mul, nI_add]
theorem ic_ix1 (l c : Nat) : (nI (l + 1) - 1) * 16 + nI c = nI (16 * l + c) := by rw [nI_pred, ic_ix]
theorem ic_iy1 (l c : Nat) : 16 * (nI (l + 1) - 1) + nI c = nI (16 * l + c) := by rw [nI_pred, ic_iy]
theorem ic_m1 (x : Int32) : x + (-1) = x - 1 := (Int32.sub_eq_add_neg x 1).symm
theorem ic_n0 : vp_nar .boolean 0 = 0 := by decide +kernel
theorem ic_n1 : vp_nar .boolean 1 = 1 := by decide +kernel
theorem ic_n {x : Int32} (h : x = 0 ∨ x = 1) : vp_nar .boolean x = x := by
  cases h with
  | inl h => rw [h]; exact ic_n0
  | inr h => rw [h]; exact ic_n1
theorem ic_10 : ¬ (1 : Int32) = 0 := by decide
/-- the array that holds p from lo to hi, else g -/
def ic_rg (lo hi : Nat) (p g : Nat → Int32) : Nat → Int32 := fun j => if lo ≤ j ∧ j < hi then p j else g j
theorem ic_rg_in {lo hi j : Nat} {p g : Nat → Int32} (h1 : lo ≤ j) (h2 : j < hi) : ic_rg lo hi p g j = p j := if_pos ⟨h1, h2⟩
theorem ic_rg_out {lo hi j : Nat} {p g : Nat → Int32} (h : j < lo ∨ hi ≤ j) : ic_rg lo hi p g j = g j := if_neg (by omega)
theorem ic_rg_0 {lo : Nat} {p g : Nat → Int32} : ic_rg lo lo p g = g := funext fun j => ic_rg_out (by omega)
theorem ic_rg_z {lo : Nat} {p g : Nat → Int32} : ic_rg lo (lo + 0) p g = g := ic_rg_0
theorem ic_rg_st {lo n : Nat} {p g : Nat → Int32} {x : Int32} (h : lo ≤ n) (hx : x = p n) : upd (ic_rg lo n p g) n x = ic_rg lo (n + 1) p g := by
  funext j
  by_cases e : j = n
  · subst e
    rw [pk_us, ic_rg_in h (by omega), hx]
  · rw [pk_un e]
    by_cases h1 : lo ≤ j ∧ j < n
    · rw [ic_rg_in h1.1 h1.2, ic_rg_in h1.1 (by omega)]
    · rw [ic_rg_out (by omega), ic_rg_out (by omega)]
theorem ic_rg_end {lo n m : Nat} {p g : Nat → Int32} (hn : n ≤ m) (h : ∀ k, n ≤ k → k < m → p k = g k) : ic_rg lo n p g = ic_rg lo m p g := by
  funext j
  by_cases h1 : lo ≤ j ∧ j < n
  · rw [ic_rg_in h1.1 h1.2, ic_rg_in h1.1 (by omega)]
  · rw [ic_rg_out (by omega)]
    by_cases h2 : lo ≤ j ∧ j < m
    · rw [ic_rg_in h2.1 h2.2, h j (by omega) h2.2]
    · rw [ic_rg_out (by omega)]
theorem ic_rg_k {lo n : Nat} {p g : Nat → Int32} (hx : p n = g n) : ic_rg lo n p g = ic_rg lo (n + 1) p g := by
  refine ic_rg_end (by omega) fun k h1 h2 => ?_
  obtain rfl : k = n := by omega
  exact hx
theorem ic_rg_nop {lo hi : Nat} {p g : Nat → Int32} (h : ∀ k, lo ≤ k → k < hi → p k = g k) : ic_rg lo hi p g = g := by
  funext j
  by_cases h1 : lo ≤ j ∧ j < hi
  · rw [ic_rg_in h1.1 h1.2, h j h1.1 h1.2]
  · rw [ic_rg_out (by omega)]
theorem ic_rg_cong {lo hi : Nat} {p p' g : Nat → Int32} (h : ∀ k, lo ≤ k → k < hi → p k = p' k) : ic_rg lo hi p g = ic_rg lo hi p' g := by
  funext j
  by_cases h1 : lo ≤ j ∧ j < hi
  · rw [ic_rg_in h1.1 h1.2, ic_rg_in h1.1 h1.2, h j h1.1 h1.2]
  · rw [ic_rg_out (by omega), ic_rg_out (by omega)]
theorem ic_rg_eq {lo hi lo' hi' j : Nat} {p g : Nat → Int32} (h : (lo ≤ j ∧ j < hi) ↔ (lo' ≤ j ∧ j < hi')) : ic_rg lo hi p g j = ic_rg lo' hi' p g j := by
  by_cases h1 : lo ≤ j ∧ j < hi
  · have h2 := h.mp h1
    rw [ic_rg_in h1.1 h1.2, ic_rg_in h2.1 h2.2]
  · have h2 : ¬ (lo' ≤ j ∧ j < hi') := fun z => h1 (h.mpr z)
    rw [ic_rg_out (by omega), ic_rg_out (by omega)]
theorem ic_rg_up {lo hi n : Nat} {p g : Nat → Int32} {x : Int32} (h : n < lo ∨ hi ≤ n) : upd (ic_rg lo hi p g) n x = ic_rg lo hi p (upd g n x) := by
  funext j
  by_cases e : j = n
  · subst e
    rw [pk_us, ic_rg_out h, pk_us]
  · rw [pk_un e]
    by_cases h1 : lo ≤ j ∧ j < hi
    · rw [ic_rg_in h1.1 h1.2, ic_rg_in h1.1 h1.2]
    · rw [ic_rg_out (by omega), ic_rg_out (by omega), pk_un e]
theorem ic_rg_01 {lo hi : Nat} {p g : Nat → Int32} (hp : ∀ j, lo ≤ j → j < hi → p j = 0 ∨ p j = 1) (hg : ∀ j, g j = 0 ∨ g j = 1) : ∀ j, ic_rg lo hi p g j = 0 ∨ ic_rg lo hi p g j = 1 := by
  intro j
  by_cases h1 : lo ≤ j ∧ j < hi
  · rw [ic_rg_in h1.1 h1.2]
    exact hp j h1.1 h1.2
  · rw [ic_rg_out (by omega)]
    exact hg j
/-- the sum of the first n -/
def ic_s (f : Nat → Int32) : Nat → Int32
  | 0 => 0
  | n + 1 => ic_s f n + f n
theorem ic_s_cong {f g : Nat → Int32} : ∀ n, (∀ k, k < n → f k = g k) → ic_s f n = ic_s g n := by
  intro n
  induction n with
  | zero => intro _; rfl
  | succ n ih =>
    intro h
    show ic_s f n + f n = ic_s g n + g n
    rw [ih fun k hk => h k (by omega), h n (by omega)]
theorem ic_s_z {f : Nat → Int32} {a : Nat} : ∀ b, (∀ k, a ≤ k → k < a + b → f k = 0) → ic_s f (a + b) = ic_s f a := by
  intro b
  induction b with
  | zero => intro _; rfl
  | succ b ih =>
    intro h
    show ic_s f (a + b) + f (a + b) = ic_s f a
    rw [ih fun k h1 h2 => h k h1 (by omega), h (a + b) (by omega) (by omega), Int32.add_zero]
theorem ic_s_k {f : Nat → Int32} {n : Nat} (h : f n = 0) : ic_s f n = ic_s f (n + 1) := by
  show ic_s f n = ic_s f n + f n
  rw [h, Int32.add_zero]
theorem ic_s_1 {f : Nat → Int32} {n : Nat} (h : f n = 1) : ic_s f n + 1 = ic_s f (n + 1) := by
  show ic_s f n + 1 = ic_s f n + f n
  rw [h]
def ic_d (f g : Nat → Int32) : Nat → Int32 := fun k => if f k = g k then 0 else 1
def ic_b (f : Nat → Int32) : Nat → Int32 := fun k => if f k = 0 then 0 else 1
def ic_m (f g mk : Nat → Int32) : Nat → Int32 := fun k => if f k = g k then mk k else 1
theorem ic_d0 {f g : Nat → Int32} {k : Nat} (h : f k = g k) : ic_d f g k = 0 := if_pos h
theorem ic_d1 {f g : Nat → Int32} {k : Nat} (h : ¬ f k = g k) : ic_d f g k = 1 := if_neg h
theorem ic_b0 {f : Nat → Int32} {k : Nat} (h : f k = 0) : ic_b f k = 0 := if_pos h
theorem ic_b1 {f : Nat → Int32} {k : Nat} (h : ¬ f k = 0) : ic_b f k = 1 := if_neg h
theorem ic_b_cong {f g : Nat → Int32} {k : Nat} (h : f k = g k) : ic_b f k = ic_b g k := by
  unfold ic_b
  rw [h]
theorem ic_m0 {f g mk : Nat → Int32} {k : Nat} (h : f k = g k) : ic_m f g mk k = mk k := if_pos h
theorem ic_m1' {f g mk : Nat → Int32} {k : Nat} (h : ¬ f k = g k) : ic_m f g mk k = 1 := if_neg h
/-- marks after the words went from f to g; how many differ -/
def ic_M (f g mk : Nat → Int32) : Nat → Int32 := ic_rg 0 16 (ic_m f g mk) mk
def ic_D (f g : Nat → Int32) : Int32 := ic_s (ic_d f g) 16
theorem ic_M_cong {f g f' g' mk : Nat → Int32} (h : ∀ k, k < 16 → f k = f' k ∧ g k = g' k) : ic_M f g mk = ic_M f' g' mk := by
  refine ic_rg_cong fun k _ hk => ?_
  obtain ⟨h1, h2⟩ := h k hk
  unfold ic_m
  rw [h1, h2]
theorem ic_D_cong {f g f' g' : Nat → Int32} (h : ∀ k, k < 16 → f k = f' k ∧ g k = g' k) : ic_D f g = ic_D f' g' := by
  refine ic_s_cong 16 fun k hk => ?_
  obtain ⟨h1, h2⟩ := h k hk
  unfold ic_d
  rw [h1, h2]
theorem ic_D_comm (f g : Nat → Int32) : ic_D f g = ic_D g f := by
  refine ic_s_cong 16 fun k _ => ?_
  by_cases h : f k = g k
  · rw [ic_d0 h, ic_d0 h.symm]
  · rw [ic_d1 h, ic_d1 fun z => h z.symm]
/-- the word of cluster c in the lowest L images -/
def ic_w (s w : Nat → Int32) : Nat → Nat → Int32
  | 0, _ => 0
  | i + 1, c => if s (16 * i + c) = 0 then ic_w s w i c else w (16 * i + c)
theorem ic_w0 {s w : Nat → Int32} {i c : Nat} (h : s (16 * i + c) = 0) : ic_w s w (i + 1) c = ic_w s w i c := if_pos h
theorem ic_w1 {s w : Nat → Int32} {i c : Nat} (h : ¬ s (16 * i + c) = 0) : ic_w s w (i + 1) c = w (16 * i + c) := if_neg h
theorem ic_w_cong {s w s' w' : Nat → Int32} {c : Nat} : ∀ L, (∀ i, i < L → s (16 * i + c) = s' (16 * i + c) ∧ (s (16 * i + c) ≠ 0 → w (16 * i + c) = w' (16 * i + c))) → ic_w s w L c = ic_w s' w' L c := by
  intro L
  induction L with
  | zero => intro _; rfl
  | succ n ih =>
    intro h
    obtain ⟨h1, h2⟩ := h n (by omega)
    by_cases z : s (16 * n + c) = 0
    · rw [ic_w0 z, ic_w0 (h1 ▸ z)]
      exact ih fun i hi => h i (by omega)
    · rw [ic_w1 z, ic_w1 (h1 ▸ z)]
      exact h2 z
theorem ic_Vb {l a i : Nat} {p q s w : Nat → Int32} (hi : i < 16) : ic_w (ic_rg (16 * l + a) (16 * l + i) p s) (ic_rg (16 * l + a) (16 * l + i) q w) (l + 1) i = ic_w s w (l + 1) i :=
  ic_w_cong _ fun k hk => ⟨ic_rg_out (by omega), fun _ => ic_rg_out (by omega)⟩
theorem ic_Va {l a i b : Nat} {p q s w : Nat → Int32} (hi : i < b) (hb : b ≤ 16) : ic_w (ic_rg (16 * l + a) (16 * l + (i + 1)) p s) (ic_rg (16 * l + a) (16 * l + (i + 1)) q w) (l + 1) i = ic_w (ic_rg (16 * l + a) (16 * l + b) p s) (ic_rg (16 * l + a) (16 * l + b) q w) (l + 1) i :=
  ic_w_cong _ fun k hk => ⟨ic_rg_eq (by omega), fun _ => ic_rg_eq (by omega)⟩
theorem ic_Vo {l a c b : Nat} {p q s w : Nat → Int32} (hc : c < 16) (h : c < a ∨ b ≤ c) : ic_w s w (l + 1) c = ic_w (ic_rg (16 * l + a) (16 * l + b) p s) (ic_rg (16 * l + a) (16 * l + b) q w) (l + 1) c :=
  (ic_w_cong _ fun k hk => ⟨ic_rg_out (by omega), fun _ => ic_rg_out (by omega)⟩).symm
/-- what a put in the top's clusters a .. b leaves of sums and marks outside them -/
theorem ic_e1 {f g : Nat → Int32} {a b : Nat} (ha : a ≤ 16) (h : ∀ c, c < 16 → c < a ∨ b ≤ c → f c = g c) : ic_s (ic_d f g) a = 0 := by
  have e := ic_s_z (f := ic_d f g) (a := 0) a fun k _ hk => ic_d0 (h k (by omega) (Or.inl (by omega)))
  rw [Nat.zero_add] at e
  exact e
theorem ic_e2 {f g : Nat → Int32} {a b : Nat} (hb : b ≤ 16) (h : ∀ c, c < 16 → c < a ∨ b ≤ c → f c = g c) : ic_s (ic_d f g) b = ic_D f g := by
  have e := ic_s_z (f := ic_d f g) (a := b) (16 - b) fun k h1 hk => ic_d0 (h k (by omega) (Or.inr h1))
  rw [show b + (16 - b) = 16 by omega] at e
  exact e.symm
theorem ic_e3 {f g mk : Nat → Int32} {a b : Nat} (ha : a ≤ 16) (h : ∀ c, c < 16 → c < a ∨ b ≤ c → f c = g c) : ic_rg 0 a (ic_m f g mk) mk = mk :=
  ic_rg_nop fun k _ hk => ic_m0 (h k (by omega) (Or.inl hk))
theorem ic_e4 {f g mk : Nat → Int32} {a b : Nat} (hb : b ≤ 16) (h : ∀ c, c < 16 → c < a ∨ b ≤ c → f c = g c) : ic_rg 0 b (ic_m f g mk) mk = ic_M f g mk :=
  ic_rg_end hb fun k h1 hk => ic_m0 (h k hk (Or.inr h1))
end
section
/-! the component's walks, each with a general post -/
section
variable {f1 f2 : Int32} {s w sS sW mk sv : Nat → Int32}
theorem ic_Xw {post : Int32 → Prop} {c : Nat} (hc : c < 16) : ∀ L, L ≤ 4 → post (ic_w s w L c) → wX_wordInLowest_4 post (nI c) f1 f2 s w sS sW mk sv (L + 1) (nI L - 1) := by
  intro L
  induction L with
  | zero => intro _ hp; exact br_t (by decide) hp
  | succ L ih =>
    intro hL hp
    rw [nI_pred]
    refine br_f (nI_pos (by omega)) fun x ex => ?_
    rw [ic_ix] at ex
    subst ex
    have hi : vp_in (nI (16 * L + c)) 64 := vp_in_nI (by omega) (by decide)
    refine ⟨hi, br_c (fun z y ey => ?_) fun z => ⟨hi, ?_⟩⟩
    · rw [nI_clamp (by omega)] at z
      rw [ey, ic_m1]
      rw [ic_w0 z] at hp
      exact ih (by omega) hp
    · rw [nI_clamp (by omega)] at z
      rw [nI_clamp (by omega)]
      rw [ic_w1 z] at hp
      exact hp
theorem ic_Xwp {post : Int32 → Prop} {c L : Nat} (hL : L ≤ 4) (hc : c < 16) (h : post (ic_w s w L c)) : wpX_wordInLowest post (f1, f2, s, w, sS, sW, mk, sv) (nI L) (nI c) := by
  intro x ex
  refine ⟨L + 1, ?_⟩
  rw [ex]
  exact ic_Xw hc L hL h
theorem ic_Xtc {post : Int32 → Prop} {c l : Nat} (h : post (nI (16 * l + c))) : wpX_topCell post (nI (l + 1), f2, s, w, sS, sW, mk, sv) (nI c) := by
  unfold wpX_topCell
  dsimp only
  rw [ic_ix1]
  exact h
theorem ic_Xcy {post : Int32 → Prop} {c : Nat} (hc : c < 16) (h : post 1) : wpX_isCluster post (nI c) :=
  br_f (nI_pos (by omega)) (br_f (ic_16f hc) h)
theorem ic_Xcn {post : Int32 → Prop} {x : Int32} (hx : x < 0 ∨ (16 : Int32) ≤ x) (h : post 0) : wpX_isCluster post x :=
  br_c (fun _ => h) fun h0 => br_t (hx.resolve_left h0) h
theorem ic_Xsy {post : Int32 → Prop} {c t : Nat} (hc : c < t) (ht : t ≤ 4) (h : post 1) : wpX_isSnapshot post (f1, nI t, s, w, sS, sW, mk, sv) (nI c) :=
  br_f (nI_pos (by omega)) (br_f (nI_ge hc (by omega)) h)
theorem ic_Xsn {post : Int32 → Prop} {x : Int32} {t : Nat} (hx : x < 0 ∨ nI t ≤ x) (h : post 0) : wpX_isSnapshot post (f1, nI t, s, w, sS, sW, mk, sv) x :=
  br_c (fun _ => h) fun h0 => br_t (hx.resolve_left h0) h
/-- one put at i, within a run of puts at a .. b -/
theorem ic_Xput {post : Int32 → SX → Prop} {l a i b : Nat} {p q : Nat → Int32} {P Q : Int32} (hl : l ≤ 3) (ha : a ≤ i) (hi : i < b) (hb : b ≤ 16) (hP : P = p (16 * l + i)) (hQ : Q = q (16 * l + i)) (h01 : P = 0 ∨ P = 1)
    (h : post (ic_d (ic_w s w (l + 1)) (ic_w (ic_rg (16 * l + a) (16 * l + b) p s) (ic_rg (16 * l + a) (16 * l + b) q w) (l + 1)) i)
      (nI (l + 1), f2, ic_rg (16 * l + a) (16 * l + (i + 1)) p s, ic_rg (16 * l + a) (16 * l + (i + 1)) q w, sS, sW, ic_rg 0 (i + 1) (ic_m (ic_w s w (l + 1)) (ic_w (ic_rg (16 * l + a) (16 * l + b) p s) (ic_rg (16 * l + a) (16 * l + b) q w) (l + 1)) mk) mk, sv)) :
    wpX_putInTop post (nI (l + 1), f2, ic_rg (16 * l + a) (16 * l + i) p s, ic_rg (16 * l + a) (16 * l + i) q w, sS, sW, ic_rg 0 i (ic_m (ic_w s w (l + 1)) (ic_w (ic_rg (16 * l + a) (16 * l + b) p s) (ic_rg (16 * l + a) (16 * l + b) q w) (l + 1)) mk) mk, sv) (nI i) P Q := by
  have hin : vp_in (nI (16 * l + i)) 64 := vp_in_nI (by omega) (by decide)
  refine ic_Xwp (by omega) (by omega) ?_
  refine ic_Xtc ?_
  refine ⟨hin, fun s' es => ⟨hin, fun w' ew => ?_⟩⟩
  have es' : s' = ic_rg (16 * l + a) (16 * l + (i + 1)) p s := es.trans (by rw [nI_clamp (by omega), ic_n h01]; exact ic_rg_st (by omega) hP)
  have ew' : w' = ic_rg (16 * l + a) (16 * l + (i + 1)) q w := ew.trans (by rw [nI_clamp (by omega)]; exact ic_rg_st (by omega) hQ)
  clear es ew
  subst es' ew'
  refine ic_Xwp (by omega) (by omega) ?_
  refine br_c (fun e => ?_) fun e => ⟨vp_in_nI (by omega) (by decide), fun m' em => ?_⟩
  · have e' := (ic_Vb (l := l) (a := a) (p := p) (q := q) (s := s) (w := w) (show i < 16 by omega)).symm.trans (e.trans (ic_Va hi hb))
    rw [ic_d0 e', ← ic_rg_k (ic_m0 e')] at h
    exact h
  · have e' : ¬ ic_w s w (l + 1) i = ic_w (ic_rg (16 * l + a) (16 * l + b) p s) (ic_rg (16 * l + a) (16 * l + b) q w) (l + 1) i := fun z => e ((ic_Vb (show i < 16 by omega)).trans (z.trans (ic_Va hi hb).symm))
    rw [nI_clamp (by omega), ic_n1, ic_rg_st (by omega) (ic_m1' e').symm] at em
    rw [ic_d1 e', ← em] at h
    exact h
/-- one put alone -/
theorem ic_Xput1 {post : Int32 → SX → Prop} {l c : Nat} {p q : Nat → Int32} {P Q : Int32} (hl : l ≤ 3) (hc : c < 16) (hP : P = p (16 * l + c)) (hQ : Q = q (16 * l + c)) (h01 : P = 0 ∨ P = 1)
    (h : post (ic_D (ic_w s w (l + 1)) (ic_w (ic_rg (16 * l + c) (16 * l + (c + 1)) p s) (ic_rg (16 * l + c) (16 * l + (c + 1)) q w) (l + 1)))
      (nI (l + 1), f2, ic_rg (16 * l + c) (16 * l + (c + 1)) p s, ic_rg (16 * l + c) (16 * l + (c + 1)) q w, sS, sW, ic_M (ic_w s w (l + 1)) (ic_w (ic_rg (16 * l + c) (16 * l + (c + 1)) p s) (ic_rg (16 * l + c) (16 * l + (c + 1)) q w) (l + 1)) mk, sv)) :
    wpX_putInTop post (nI (l + 1), f2, s, w, sS, sW, mk, sv) (nI c) P Q := by
  have hV : ∀ k, k < 16 → k < c ∨ c + 1 ≤ k → ic_w s w (l + 1) k = ic_w (ic_rg (16 * l + c) (16 * l + (c + 1)) p s) (ic_rg (16 * l + c) (16 * l + (c + 1)) q w) (l + 1) k := fun k h1 h2 => ic_Vo h1 h2
  have g := ic_Xput (post := post) (f2 := f2) (s := s) (w := w) (sS := sS) (sW := sW) (mk := mk) (sv := sv) (l := l) (a := c) (i := c) (b := c + 1) (p := p) (q := q) (P := P) (Q := Q) hl (by omega) (by omega) (by omega) hP hQ h01
  rw [ic_e4 (by omega) hV, ic_rg_0, ic_rg_0, ic_e3 (by omega) hV] at g
  refine g ?_
  have e : ic_d (ic_w s w (l + 1)) (ic_w (ic_rg (16 * l + c) (16 * l + (c + 1)) p s) (ic_rg (16 * l + c) (16 * l + (c + 1)) q w) (l + 1)) c = ic_D (ic_w s w (l + 1)) (ic_w (ic_rg (16 * l + c) (16 * l + (c + 1)) p s) (ic_rg (16 * l + c) (16 * l + (c + 1)) q w) (l + 1)) := by
    rw [← ic_e2 (by omega) hV]
    show _ = ic_s _ c + _
    rw [ic_e1 (by omega) hV, Int32.zero_add]
  rw [e]
  exact h
theorem ic_Xfill0 {post : Int32 → SX → Prop} {l a D : Nat} {x : Int32} (hl : l ≤ 3) (hD : D < 16)
    (h : post (ic_s (ic_d (ic_w s w (l + 1)) (ic_w (ic_rg (16 * l + a) (16 * l + (D + 1)) (fun _ => 1) s) (ic_rg (16 * l + a) (16 * l + (D + 1)) (fun _ => x) w) (l + 1))) (D + 1))
      (nI (l + 1), f2, ic_rg (16 * l + a) (16 * l + (D + 1)) (fun _ => 1) s, ic_rg (16 * l + a) (16 * l + (D + 1)) (fun _ => x) w, sS, sW, ic_rg 0 (D + 1) (ic_m (ic_w s w (l + 1)) (ic_w (ic_rg (16 * l + a) (16 * l + (D + 1)) (fun _ => 1) s) (ic_rg (16 * l + a) (16 * l + (D + 1)) (fun _ => x) w) (l + 1)) mk) mk, sv)) :
    ∀ d i, i + d = D + 1 → a ≤ i → wX_fill_27 post (nI D) x (d + 1) (ic_s (ic_d (ic_w s w (l + 1)) (ic_w (ic_rg (16 * l + a) (16 * l + (D + 1)) (fun _ => 1) s) (ic_rg (16 * l + a) (16 * l + (D + 1)) (fun _ => x) w) (l + 1))) i) (nI i)
      (nI (l + 1)) f2 (ic_rg (16 * l + a) (16 * l + i) (fun _ => 1) s) (ic_rg (16 * l + a) (16 * l + i) (fun _ => x) w) sS sW (ic_rg 0 i (ic_m (ic_w s w (l + 1)) (ic_w (ic_rg (16 * l + a) (16 * l + (D + 1)) (fun _ => 1) s) (ic_rg (16 * l + a) (16 * l + (D + 1)) (fun _ => x) w) (l + 1)) mk) mk) sv := by
  intro d
  induction d with
  | zero =>
    intro i hi ha
    obtain rfl : i = D + 1 := by omega
    exact br_t (nI_lt (by omega) (by omega)) h
  | succ d ih =>
    intro i hi ha
    refine br_f (nI_nlt (by omega) (by omega)) (ic_Xput hl ha (by omega) (by omega) rfl rfl (Or.inr rfl) ?_)
    intro y ey z ez
    rw [ey, ez, nI_1]
    exact ih (i + 1) (by omega) (by omega)
theorem ic_Xfill {post : Int32 → SX → Prop} {l a D : Nat} {x : Int32} (hl : l ≤ 3) (hD : D < 16) (ha : a ≤ D)
    (h : post (ic_D (ic_w s w (l + 1)) (ic_w (ic_rg (16 * l + a) (16 * l + (D + 1)) (fun _ => 1) s) (ic_rg (16 * l + a) (16 * l + (D + 1)) (fun _ => x) w) (l + 1)))
      (nI (l + 1), f2, ic_rg (16 * l + a) (16 * l + (D + 1)) (fun _ => 1) s, ic_rg (16 * l + a) (16 * l + (D + 1)) (fun _ => x) w, sS, sW, ic_M (ic_w s w (l + 1)) (ic_w (ic_rg (16 * l + a) (16 * l + (D + 1)) (fun _ => 1) s) (ic_rg (16 * l + a) (16 * l + (D + 1)) (fun _ => x) w) (l + 1)) mk, sv)) :
    ∃ n, wX_fill_27 post (nI D) x n 0 (nI a) (nI (l + 1)) f2 s w sS sW mk sv := by
  have hV : ∀ k, k < 16 → k < a ∨ D + 1 ≤ k → ic_w s w (l + 1) k = ic_w (ic_rg (16 * l + a) (16 * l + (D + 1)) (fun _ => 1) s) (ic_rg (16 * l + a) (16 * l + (D + 1)) (fun _ => x) w) (l + 1) k := fun k h1 h2 => ic_Vo h1 h2
  rw [← ic_e2 (by omega) hV, ← ic_e4 (by omega) hV] at h
  have g := ic_Xfill0 hl hD h (D + 1 - a) a (by omega) (by omega)
  rw [ic_e1 (by omega) hV, ic_rg_0, ic_rg_0, ic_e3 (by omega) hV] at g
  exact ⟨_, g⟩
theorem ic_Xrev0 {post : Int32 → SX → Prop} {l r : Nat} (hl : l ≤ 3) (hr : r ≤ 3) (h01 : ∀ j, sS j = 0 ∨ sS j = 1)
    (h : post (ic_D (ic_w s w (l + 1)) (ic_w (ic_rg (16 * l + 0) (16 * l + 16) (fun j => sS (j - 16 * l + 16 * r)) s) (ic_rg (16 * l + 0) (16 * l + 16) (fun j => sW (j - 16 * l + 16 * r)) w) (l + 1)))
      (nI (l + 1), f2, ic_rg (16 * l + 0) (16 * l + 16) (fun j => sS (j - 16 * l + 16 * r)) s, ic_rg (16 * l + 0) (16 * l + 16) (fun j => sW (j - 16 * l + 16 * r)) w, sS, sW, ic_M (ic_w s w (l + 1)) (ic_w (ic_rg (16 * l + 0) (16 * l + 16) (fun j => sS (j - 16 * l + 16 * r)) s) (ic_rg (16 * l + 0) (16 * l + 16) (fun j => sW (j - 16 * l + 16 * r)) w) (l + 1)) mk, sv)) :
    ∀ d i, i + d = 16 → wX_revert_15 post (nI r) (d + 1) (ic_s (ic_d (ic_w s w (l + 1)) (ic_w (ic_rg (16 * l + 0) (16 * l + 16) (fun j => sS (j - 16 * l + 16 * r)) s) (ic_rg (16 * l + 0) (16 * l + 16) (fun j => sW (j - 16 * l + 16 * r)) w) (l + 1))) i) (nI i)
      (nI (l + 1)) f2 (ic_rg (16 * l + 0) (16 * l + i) (fun j => sS (j - 16 * l + 16 * r)) s) (ic_rg (16 * l + 0) (16 * l + i) (fun j => sW (j - 16 * l + 16 * r)) w) sS sW (ic_rg 0 i (ic_m (ic_w s w (l + 1)) (ic_w (ic_rg (16 * l + 0) (16 * l + 16) (fun j => sS (j - 16 * l + 16 * r)) s) (ic_rg (16 * l + 0) (16 * l + 16) (fun j => sW (j - 16 * l + 16 * r)) w) (l + 1)) mk) mk) sv := by
  intro d
  induction d with
  | zero =>
    intro i hi
    obtain rfl : i = 16 := by omega
    exact br_t ic_16t h
  | succ d ih =>
    intro i hi
    refine br_f (ic_16f (by omega)) fun x ex => ?_
    rw [ic_ix] at ex
    subst ex
    have hin : vp_in (nI (16 * r + i)) 64 := vp_in_nI (by omega) (by decide)
    refine ⟨hin, hin, ic_Xput hl (by omega) (by omega) (by omega) ?_ ?_ (h01 _) ?_⟩
    · rw [nI_clamp (by omega)]
      exact congrArg sS (by omega)
    · rw [nI_clamp (by omega)]
      exact congrArg sW (by omega)
    · intro y ey z ez
      rw [ey, ez, nI_1]
      exact ih (i + 1) (by omega)
theorem ic_Xrev {post : Int32 → SX → Prop} {l r : Nat} (hl : l ≤ 3) (hr : r ≤ 3) (h01 : ∀ j, sS j = 0 ∨ sS j = 1)
    (h : post (ic_D (ic_w s w (l + 1)) (ic_w (ic_rg (16 * l + 0) (16 * l + 16) (fun j => sS (j - 16 * l + 16 * r)) s) (ic_rg (16 * l + 0) (16 * l + 16) (fun j => sW (j - 16 * l + 16 * r)) w) (l + 1)))
      (nI (l + 1), f2, ic_rg (16 * l + 0) (16 * l + 16) (fun j => sS (j - 16 * l + 16 * r)) s, ic_rg (16 * l + 0) (16 * l + 16) (fun j => sW (j - 16 * l + 16 * r)) w, sS, sW, ic_M (ic_w s w (l + 1)) (ic_w (ic_rg (16 * l + 0) (16 * l + 16) (fun j => sS (j - 16 * l + 16 * r)) s) (ic_rg (16 * l + 0) (16 * l + 16) (fun j => sW (j - 16 * l + 16 * r)) w) (l + 1)) mk, sv)) :
    ∃ n, wX_revert_15 post (nI r) n 0 0 (nI (l + 1)) f2 s w sS sW mk sv := by
  have g := ic_Xrev0 hl hr h01 h 16 0 (by omega)
  rw [ic_rg_0, ic_rg_0, ic_rg_0] at g
  exact ⟨_, g⟩
/-- a word of the top is cleared, within a run a .. b -/
theorem ic_Xclr {post : Int32 → SX → Prop} {l a i b : Nat} (hl : l ≤ 3) (ha : a ≤ i) (hi : i < b) (hb : b ≤ 16)
    (h : post (ic_b (fun k => s (16 * l + k)) i)
      (nI (l + 1), f2, ic_rg (16 * l + a) (16 * l + (i + 1)) (fun _ => 0) s, ic_rg (16 * l + a) (16 * l + (i + 1)) (fun _ => 0) w, sS, sW, ic_rg 0 (i + 1) (ic_m (ic_w s w (l + 1)) (ic_w (ic_rg (16 * l + a) (16 * l + b) (fun _ => 0) s) (ic_rg (16 * l + a) (16 * l + b) (fun _ => 0) w) (l + 1)) mk) mk, sv)) :
    wpX_clearInTop post (nI (l + 1), f2, ic_rg (16 * l + a) (16 * l + i) (fun _ => 0) s, ic_rg (16 * l + a) (16 * l + i) (fun _ => 0) w, sS, sW, ic_rg 0 i (ic_m (ic_w s w (l + 1)) (ic_w (ic_rg (16 * l + a) (16 * l + b) (fun _ => 0) s) (ic_rg (16 * l + a) (16 * l + b) (fun _ => 0) w) (l + 1)) mk) mk, sv) (nI i) := by
  have hin : vp_in (nI (16 * l + i)) 64 := vp_in_nI (by omega) (by decide)
  unfold wpX_clearInTop
  refine ic_Xtc ?_
  refine ⟨hin, br_c (fun z => ?_) fun z => ?_⟩
  · rw [nI_clamp (by omega), ic_rg_out (by omega)] at z
    rw [ic_b0 (f := fun k => s (16 * l + k)) z] at h
    unfold wX_clearInTop_18
    exact ic_Xput (p := fun _ => 0) (q := fun _ => 0) hl ha hi hb rfl rfl (Or.inl rfl) h
  · rw [nI_clamp (by omega), ic_rg_out (by omega)] at z
    rw [ic_b1 (f := fun k => s (16 * l + k)) z] at h
    unfold wX_clearInTop_18
    exact ic_Xput (p := fun _ => 0) (q := fun _ => 0) hl ha hi hb rfl rfl (Or.inl rfl) h
theorem ic_Xclr1 {post : Int32 → SX → Prop} {l c : Nat} (hl : l ≤ 3) (hc : c < 16)
    (h : post (ic_b (fun k => s (16 * l + k)) c)
      (nI (l + 1), f2, ic_rg (16 * l + c) (16 * l + (c + 1)) (fun _ => 0) s, ic_rg (16 * l + c) (16 * l + (c + 1)) (fun _ => 0) w, sS, sW, ic_M (ic_w s w (l + 1)) (ic_w (ic_rg (16 * l + c) (16 * l + (c + 1)) (fun _ => 0) s) (ic_rg (16 * l + c) (16 * l + (c + 1)) (fun _ => 0) w) (l + 1)) mk, sv)) :
    wpX_clearInTop post (nI (l + 1), f2, s, w, sS, sW, mk, sv) (nI c) := by
  have hV : ∀ k, k < 16 → k < c ∨ c + 1 ≤ k → ic_w s w (l + 1) k = ic_w (ic_rg (16 * l + c) (16 * l + (c + 1)) (fun _ => 0) s) (ic_rg (16 * l + c) (16 * l + (c + 1)) (fun _ => 0) w) (l + 1) k := fun k h1 h2 => ic_Vo h1 h2
  have g := ic_Xclr (post := post) (f2 := f2) (s := s) (w := w) (sS := sS) (sW := sW) (mk := mk) (sv := sv) (l := l) (a := c) (i := c) (b := c + 1) hl (by omega) (by omega) (by omega)
  rw [ic_e4 (by omega) hV, ic_rg_0, ic_rg_0, ic_e3 (by omega) hV] at g
  exact g h
theorem ic_Xaban0 {post : Int32 → SX → Prop} {l : Nat} (hl : l ≤ 3)
    (h : post (ic_s (ic_b (fun k => s (16 * l + k))) 16)
      (nI l, f2, ic_rg (16 * l + 0) (16 * l + 16) (fun _ => 0) s, ic_rg (16 * l + 0) (16 * l + 16) (fun _ => 0) w, sS, sW, ic_M (ic_w s w (l + 1)) (ic_w (ic_rg (16 * l + 0) (16 * l + 16) (fun _ => 0) s) (ic_rg (16 * l + 0) (16 * l + 16) (fun _ => 0) w) (l + 1)) mk, sv)) :
    ∀ d i, i + d = 16 → wX_abandon_22 post (d + 1) (ic_s (ic_b (fun k => s (16 * l + k))) i) (nI i)
      (nI (l + 1)) f2 (ic_rg (16 * l + 0) (16 * l + i) (fun _ => 0) s) (ic_rg (16 * l + 0) (16 * l + i) (fun _ => 0) w) sS sW (ic_rg 0 i (ic_m (ic_w s w (l + 1)) (ic_w (ic_rg (16 * l + 0) (16 * l + 16) (fun _ => 0) s) (ic_rg (16 * l + 0) (16 * l + 16) (fun _ => 0) w) (l + 1)) mk) mk) sv := by
  intro d
  induction d with
  | zero =>
    intro i hi
    obtain rfl : i = 16 := by omega
    refine br_t ic_16t fun y ey => ?_
    rw [ey, nI_pred]
    exact h
  | succ d ih =>
    intro i hi
    refine br_f (ic_16f (by omega)) (ic_Xclr hl (by omega) (by omega) (by omega) ?_)
    intro y ey z ez
    rw [ey, ez, nI_1]
    exact ih (i + 1) (by omega)
theorem ic_Xaban {post : Int32 → SX → Prop} {l : Nat} (hl : l ≤ 3)
    (h : post (ic_s (ic_b (fun k => s (16 * l + k))) 16)
      (nI l, f2, ic_rg (16 * l + 0) (16 * l + 16) (fun _ => 0) s, ic_rg (16 * l + 0) (16 * l + 16) (fun _ => 0) w, sS, sW, ic_M (ic_w s w (l + 1)) (ic_w (ic_rg (16 * l + 0) (16 * l + 16) (fun _ => 0) s) (ic_rg (16 * l + 0) (16 * l + 16) (fun _ => 0) w) (l + 1)) mk, sv)) :
    ∃ n, wX_abandon_22 post n 0 0 (nI (l + 1)) f2 s w sS sW mk sv := by
  have g := ic_Xaban0 hl h 16 0 (by omega)
  rw [ic_rg_0, ic_rg_0, ic_rg_0] at g
  exact ⟨_, g⟩
end
end
section
/-! the component's other loops -/
section
variable {f1 f2 : Int32} {s w sS sW mk sv : Nat → Int32}
/-- the image below (cells from 16 m on) when the image above it (16 cells further) is laid over it: what it says, its words -/
def ic_ps (s : Nat → Int32) : Nat → Int32 := fun j => if s (j + 16) = 0 then s j else 1
def ic_pw (s w : Nat → Int32) : Nat → Int32 := fun j => if s (j + 16) = 0 then w j else w (j + 16)
theorem ic_ps0 {s : Nat → Int32} {j : Nat} (h : s (j + 16) = 0) : ic_ps s j = s j := if_pos h
theorem ic_ps1 {s : Nat → Int32} {j : Nat} (h : ¬ s (j + 16) = 0) : ic_ps s j = 1 := if_neg h
theorem ic_pw0 {s w : Nat → Int32} {j : Nat} (h : s (j + 16) = 0) : ic_pw s w j = w j := if_pos h
theorem ic_pw1 {s w : Nat → Int32} {j : Nat} (h : ¬ s (j + 16) = 0) : ic_pw s w j = w (j + 16) := if_neg h
theorem ic_Xmrg0 {post : Int32 → SX → Prop} {m : Nat} (hm : m ≤ 2)
    (h : post (ic_s (ic_b (fun k => s (16 * (m + 1) + k))) 16) (nI (m + 1), f2, ic_rg (16 * (m + 1)) (16 * (m + 1) + 16) (fun _ => 0) (ic_rg (16 * m) (16 * m + 16) (ic_ps s) s), ic_rg (16 * m) (16 * m + 16) (ic_pw s w) w, sS, sW, mk, sv)) :
    ∀ d i, i + d = 16 → wX_mergeTopDown_4 post (nI (m + 1 + 1)) f2 (d + 1) (ic_s (ic_b (fun k => s (16 * (m + 1) + k))) i) (nI i)
      (ic_rg (16 * (m + 1)) (16 * (m + 1) + i) (fun _ => 0) (ic_rg (16 * m) (16 * m + i) (ic_ps s) s)) (ic_rg (16 * m) (16 * m + i) (ic_pw s w) w) sS sW mk sv := by
  intro d
  induction d with
  | zero =>
    intro i hi
    obtain rfl : i = 16 := by omega
    refine br_t ic_16t fun y ey => ?_
    rw [ey, nI_pred]
    exact h
  | succ d ih =>
    intro i hi
    have hin : vp_in (nI (16 * (m + 1) + i)) 64 := vp_in_nI (by omega) (by decide)
    have hib : vp_in (nI (16 * m + i)) 64 := vp_in_nI (by omega) (by decide)
    refine br_f (ic_16f (by omega)) (ic_Xtc ?_)
    intro x ex
    have ex' : x = nI (16 * m + i) := ex.trans ((pk_sub (b := 16) (show 16 ≤ 16 * (m + 1) + i by omega)).trans (congrArg nI (by omega)))
    clear ex
    subst ex'
    have g := ih (i + 1) (by omega)
    refine ⟨hin, br_c (fun z y ey => ?_) fun z => ?_⟩
    · rw [nI_clamp (by omega), ic_rg_out (by omega), ic_rg_out (by omega)] at z
      have z' : s (16 * m + i + 16) = 0 := by rw [show 16 * m + i + 16 = 16 * (m + 1) + i by omega]; exact z
      rw [← ic_s_k (ic_b0 (f := fun k => s (16 * (m + 1) + k)) z), ← Nat.add_assoc, ← Nat.add_assoc, ← ic_rg_k (p := ic_ps s) (ic_ps0 z'), ← ic_rg_k (p := ic_pw s w) (ic_pw0 z')] at g
      rw [← ic_rg_k (lo := 16 * (m + 1)) (show (fun _ => (0 : Int32)) (16 * (m + 1) + i) = ic_rg (16 * m) (16 * m + i) (ic_ps s) s (16 * (m + 1) + i) by rw [ic_rg_out (by omega), z])] at g
      rw [ey, nI_1]
      exact g
    · rw [nI_clamp (by omega), ic_rg_out (by omega), ic_rg_out (by omega)] at z
      have z' : ¬ s (16 * m + i + 16) = 0 := by rw [show 16 * m + i + 16 = 16 * (m + 1) + i by omega]; exact z
      refine ⟨hib, fun s1 e1 => ⟨hin, hib, fun w1 e2 => ⟨hin, fun s2 e3 y ey q eq => ?_⟩⟩⟩
      rw [nI_clamp (by omega), ic_n1, ic_rg_up (by omega), ic_rg_st (by omega) (ic_ps1 z').symm] at e1
      rw [nI_clamp (by omega), nI_clamp (by omega), ic_rg_out (by omega), show 16 * (m + 1) + i = 16 * m + i + 16 by omega, ic_rg_st (by omega) (ic_pw1 z').symm] at e2
      rw [nI_clamp (by omega), ic_n0, e1, ic_rg_st (by omega) rfl] at e3
      rw [ey, eq, nI_1, e3, e2, ic_s_1 (ic_b1 (f := fun k => s (16 * (m + 1) + k)) z)]
      exact g
theorem ic_Xmrg {post : Int32 → SX → Prop} {m : Nat} (hm : m ≤ 2)
    (h : post (ic_s (ic_b (fun k => s (16 * (m + 1) + k))) 16) (nI (m + 1), f2, ic_rg (16 * (m + 1)) (16 * (m + 1) + 16) (fun _ => 0) (ic_rg (16 * m) (16 * m + 16) (ic_ps s) s), ic_rg (16 * m) (16 * m + 16) (ic_pw s w) w, sS, sW, mk, sv)) :
    wpX_mergeTopDown post (nI (m + 1 + 1), f2, s, w, sS, sW, mk, sv) := by
  have g := ic_Xmrg0 hm h 16 0 (by omega)
  rw [ic_rg_z, ic_rg_z, ic_rg_z] at g
  exact ⟨_, g⟩
theorem ic_Xsnap0 {post : Int32 → SX → Prop} {l t : Nat} (hl : l ≤ 3) (ht : t ≤ 3) (h01 : ∀ j, s j = 0 ∨ s j = 1)
    (h : post (nI t) (nI (l + 1), nI (t + 1), s, w, ic_rg (16 * t) (16 * t + 16) (fun j => s (j - 16 * t + 16 * l)) sS, ic_rg (16 * t) (16 * t + 16) (fun j => w (j - 16 * t + 16 * l)) sW, mk, sv)) :
    ∀ d i, i + d = 16 → wX_snapshot_18 post (nI t) (nI (l + 1)) (nI t) (d + 1) (nI i) s w
      (ic_rg (16 * t) (16 * t + i) (fun j => s (j - 16 * t + 16 * l)) sS) (ic_rg (16 * t) (16 * t + i) (fun j => w (j - 16 * t + 16 * l)) sW) mk sv := by
  intro d
  induction d with
  | zero =>
    intro i hi
    obtain rfl : i = 16 := by omega
    refine br_t ic_16t fun y ey => ?_
    rw [ey, nI_1]
    exact h
  | succ d ih =>
    intro i hi
    have hin : vp_in (nI (16 * l + i)) 64 := vp_in_nI (by omega) (by decide)
    have hit : vp_in (nI (16 * t + i)) 64 := vp_in_nI (by omega) (by decide)
    refine br_f (ic_16f (by omega)) (ic_Xtc ?_)
    intro x ex
    rw [ic_ix] at ex
    subst ex
    refine ⟨hin, hit, fun s1 e1 => ⟨hin, hit, fun w1 e2 y ey => ?_⟩⟩
    rw [nI_clamp (by omega), nI_clamp (by omega), ic_n (h01 _), ic_rg_st (p := fun j => s (j - 16 * t + 16 * l)) (by omega) (congrArg s (show 16 * l + i = 16 * t + i - 16 * t + 16 * l by omega))] at e1
    rw [nI_clamp (by omega), nI_clamp (by omega), ic_rg_st (p := fun j => w (j - 16 * t + 16 * l)) (by omega) (congrArg w (show 16 * l + i = 16 * t + i - 16 * t + 16 * l by omega))] at e2
    rw [ey, nI_1, e1, e2]
    exact ih (i + 1) (by omega)
theorem ic_Xsnap {post : Int32 → SX → Prop} {l t : Nat} (hl : l ≤ 3) (ht : t ≤ 3) (h01 : ∀ j, s j = 0 ∨ s j = 1)
    (h : post (nI t) (nI (l + 1), nI (t + 1), s, w, ic_rg (16 * t) (16 * t + 16) (fun j => s (j - 16 * t + 16 * l)) sS, ic_rg (16 * t) (16 * t + 16) (fun j => w (j - 16 * t + 16 * l)) sW, mk, sv)) :
    ∃ n, wX_snapshot_18 post (nI t) (nI (l + 1)) (nI t) n 0 s w sS sW mk sv := by
  have g := ic_Xsnap0 hl ht h01 h 16 0 (by omega)
  rw [ic_rg_z, ic_rg_z] at g
  exact ⟨_, g⟩
theorem ic_Xforg0 {post : Int32 → SX → Prop} {r t : Nat} (ht : t ≤ 3) (h01 : ∀ j, sS j = 0 ∨ sS j = 1)
    (h : post (nI t) (f1, nI t, s, w, ic_rg (16 * r) (16 * t) (fun j => sS (j + 16)) sS, ic_rg (16 * r) (16 * t) (fun j => sW (j + 16)) sW, mk, sv)) :
    ∀ d i, i + d = 16 * t → 16 * r ≤ i → wX_forget_26 post f1 (nI t) (d + 1) (nI i) s w
      (ic_rg (16 * r) i (fun j => sS (j + 16)) sS) (ic_rg (16 * r) i (fun j => sW (j + 16)) sW) mk sv := by
  have e16 : nI t * 16 = nI (16 * t) := (pk_mul t 16).trans (congrArg nI (Nat.mul_comm t 16))
  intro d
  induction d with
  | zero =>
    intro i hi hr
    obtain rfl : i = 16 * t := by omega
    refine br_t ?_ h
    rw [e16]
    exact nI_le (Nat.le_refl _) (by omega)
  | succ d ih =>
    intro i hi hr
    refine br_f ?_ fun x ex => ?_
    · rw [e16]
      exact nI_ge (by omega) (by omega)
    · have ex' : x = nI (i + 16) := ex.trans (nI_add i 16)
      clear ex
      subst ex'
      have h1 : vp_in (nI (i + 16)) 64 := vp_in_nI (by omega) (by decide)
      have h2 : vp_in (nI i) 64 := vp_in_nI (by omega) (by decide)
      refine ⟨h1, h2, fun s1 e1 => ⟨h1, h2, fun w1 e2 y ey => ?_⟩⟩
      rw [nI_clamp (by omega), nI_clamp (by omega), ic_rg_out (by omega), ic_n (h01 _), ic_rg_st (by omega) rfl] at e1
      rw [nI_clamp (by omega), nI_clamp (by omega), ic_rg_out (by omega), ic_rg_st (by omega) rfl] at e2
      rw [ey, nI_1, e1, e2]
      exact ih (i + 1) (by omega) (by omega)
theorem ic_Xforg {post : Int32 → SX → Prop} {r t : Nat} (ht : t ≤ 3) (hr : r ≤ t) (h01 : ∀ j, sS j = 0 ∨ sS j = 1)
    (h : post (nI t) (f1, nI t, s, w, ic_rg (16 * r) (16 * t) (fun j => sS (j + 16)) sS, ic_rg (16 * r) (16 * t) (fun j => sW (j + 16)) sW, mk, sv)) :
    ∃ n, wX_forget_26 post f1 (nI t) n (nI (16 * r)) s w sS sW mk sv := by
  have g := ic_Xforg0 (r := r) ht h01 h (16 * t - 16 * r) (16 * r) (by omega) (by omega)
  rw [ic_rg_0, ic_rg_0] at g
  exact ⟨_, g⟩
theorem ic_Xmark {post : Int32 → Prop} (h : post (ic_s (ic_b mk) 16)) : wpX_marked post (f1, f2, s, w, sS, sW, mk, sv) := by
  have g : ∀ d i, i + d = 16 → wX_marked_4 post f1 f2 s w sS sW mk sv (d + 1) (ic_s (ic_b mk) i) (nI i) := by
    intro d
    induction d with
    | zero =>
      intro i hi
      obtain rfl : i = 16 := by omega
      exact br_t ic_16t h
    | succ d ih =>
      intro i hi
      refine br_f (ic_16f (by omega)) ⟨vp_in_nI (by omega) (by decide), br_c (fun z y ey => ?_) fun z y ey q eq => ?_⟩
      · rw [nI_clamp (by omega)] at z
        rw [ey, nI_1, ic_s_k (ic_b0 z)]
        exact ih (i + 1) (by omega)
      · rw [nI_clamp (by omega)] at z
        rw [ey, eq, nI_1, ic_s_1 (ic_b1 z)]
        exact ih (i + 1) (by omega)
  exact ⟨_, g 16 0 (by omega)⟩
/-- what the backup saves -/
def ic_sv (mk sv V : Nat → Int32) : Nat → Int32 := fun k => if mk k = 0 then sv k else V k
theorem ic_sv0 {mk sv V : Nat → Int32} {k : Nat} (h : mk k = 0) : ic_sv mk sv V k = sv k := if_pos h
theorem ic_sv1 {mk sv V : Nat → Int32} {k : Nat} (h : ¬ mk k = 0) : ic_sv mk sv V k = V k := if_neg h
theorem ic_Xback {post : Int32 → SX → Prop} {L : Nat} (hL : L ≤ 4) (h : post (ic_s (ic_b mk) 16) (nI L, f2, s, w, sS, sW, ic_rg 0 16 (fun _ => 0) mk, ic_rg 0 16 (ic_sv mk sv (ic_w s w L)) sv)) : wpX_backup post (nI L, f2, s, w, sS, sW, mk, sv) := by
  have g : ∀ d i, i + d = 16 → wX_backup_4 post (nI L) f2 (d + 1) (ic_s (ic_b mk) i) (nI i) s w sS sW (ic_rg 0 i (fun _ => 0) mk) (ic_rg 0 i (ic_sv mk sv (ic_w s w L)) sv) := by
    intro d
    induction d with
    | zero =>
      intro i hi
      obtain rfl : i = 16 := by omega
      exact br_t ic_16t h
    | succ d ih =>
      intro i hi
      have hin : vp_in (nI i) 16 := vp_in_nI (by omega) (by decide)
      have g := ih (i + 1) (by omega)
      refine br_f (ic_16f (by omega)) ⟨hin, br_c (fun z y ey => ?_) fun z => ?_⟩
      · rw [nI_clamp (by omega), ic_rg_out (by omega)] at z
        rw [← ic_rg_k (p := fun _ => 0) z.symm, ← ic_rg_k (p := ic_sv mk sv (ic_w s w L)) (ic_sv0 z)] at g
        rw [ey, nI_1, ic_s_k (ic_b0 z)]
        exact g
      · rw [nI_clamp (by omega), ic_rg_out (by omega)] at z
        refine ic_Xwp hL (by omega) ⟨hin, fun v1 e1 => ⟨hin, fun m1 e2 y ey q eq => ?_⟩⟩
        rw [nI_clamp (by omega), ic_rg_st (by omega) (ic_sv1 z).symm] at e1
        rw [nI_clamp (by omega), ic_n0, ic_rg_st (by omega) rfl] at e2
        rw [ey, eq, nI_1, e1, e2, ic_s_1 (ic_b1 z)]
        exact g
  have g0 := g 16 0 (by omega)
  rw [ic_rg_0, ic_rg_0] at g0
  exact ⟨_, g0⟩
theorem ic_Xbeh {post : Int32 → Prop} {L : Nat} (hL : L ≤ 4) (h : post (ic_D (ic_w s w L) sv)) : wpX_behind post (nI L, f2, s, w, sS, sW, mk, sv) := by
  have g : ∀ d i, i + d = 16 → wX_behind_4 post (nI L) f2 s w sS sW mk sv (d + 1) (ic_s (ic_d (ic_w s w L) sv) i) (nI i) := by
    intro d
    induction d with
    | zero =>
      intro i hi
      obtain rfl : i = 16 := by omega
      exact br_t ic_16t h
    | succ d ih =>
      intro i hi
      refine br_f (ic_16f (by omega)) (ic_Xwp hL (by omega) ⟨vp_in_nI (by omega) (by decide), br_c (fun z y ey => ?_) fun z y ey q eq => ?_⟩)
      · rw [nI_clamp (by omega)] at z
        rw [ey, nI_1, ic_s_k (ic_d0 z)]
        exact ih (i + 1) (by omega)
      · rw [nI_clamp (by omega)] at z
        rw [ey, eq, nI_1, ic_s_1 (ic_d1 z)]
        exact ih (i + 1) (by omega)
  exact ⟨_, g 16 0 (by omega)⟩
theorem ic_Xdig {post : Int32 → Prop} {L : Nat} (hL : L ≤ 4) (h : post (ic_s (fun k => (nI k + 1) * ic_w s w L k) 16)) : wpX_digest post (nI L, f2, s, w, sS, sW, mk, sv) := by
  have g : ∀ d i, i + d = 16 → wX_digest_4 post (nI L) f2 s w sS sW mk sv (d + 1) (ic_s (fun k => (nI k + 1) * ic_w s w L k) i) (nI i) := by
    intro d
    induction d with
    | zero =>
      intro i hi
      obtain rfl : i = 16 := by omega
      exact br_t ic_16t h
    | succ d ih =>
      intro i hi
      refine br_f (ic_16f (by omega)) (ic_Xwp hL (by omega) ?_)
      intro y ey q eq
      rw [eq, nI_1 i, ey]
      exact ih (i + 1) (by omega)
  exact ⟨_, g 16 0 (by omega)⟩
end
end
section
/-! the reference's walks, each with a general post -/
section
variable {f1 f2 : Int32} {S W mk sv bf : Nat → Int32}
theorem ic_Yw {post : Int32 → Prop} {c : Nat} (hc : c < 16) : ∀ L, L ≤ 4 → post (ic_w S W L c) → wY_wordIn_4 post (nI c) f1 f2 S W mk sv bf (L + 1) (nI L - 1) := by
  intro L
  induction L with
  | zero => intro _ hp; exact br_t (by decide) hp
  | succ L ih =>
    intro hL hp
    rw [nI_pred]
    have hi : vp_in (16 * nI L + nI c) 128 := by
      rw [ic_iy]
      exact vp_in_nI (by omega) (by decide)
    refine br_f (nI_pos (by omega)) ⟨hi, br_c (fun z y ey => ?_) fun z => ⟨hi, ?_⟩⟩
    · rw [ic_iy, nI_clamp (by omega)] at z
      rw [ey, ic_m1]
      rw [ic_w0 z] at hp
      exact ih (by omega) hp
    · rw [ic_iy, nI_clamp (by omega)] at z
      rw [ic_iy, nI_clamp (by omega)]
      rw [ic_w1 z] at hp
      exact hp
theorem ic_Ywp {post : Int32 → Prop} {c L : Nat} (hL : L ≤ 4) (hc : c < 16) (h : post (ic_w S W L c)) : wpY_wordIn post (f1, f2, S, W, mk, sv, bf) (nI L) (nI c) := by
  intro x ex
  refine ⟨L + 1, ?_⟩
  rw [ex]
  exact ic_Yw hc L hL h
theorem ic_Ycy {post : Int32 → Prop} {c : Nat} (hc : c < 16) (h : post 1) : wpY_isCluster post (f1, f2, S, W, mk, sv, bf) (nI c) :=
  br_f (nI_pos (by omega)) (br_f (nI_nlt (b := c) (a := 15) (by omega) (by decide)) h)
theorem ic_Ycn {post : Int32 → Prop} {x : Int32} (hx : x < 0 ∨ (16 : Int32) ≤ x) (h : post 0) : wpY_isCluster post (f1, f2, S, W, mk, sv, bf) x :=
  br_c (fun _ => h) fun h0 => br_t (Int32.lt_of_lt_of_le (by decide) (hx.resolve_left h0)) h
theorem ic_Ysy {post : Int32 → Prop} {c t : Nat} (hc : c < t) (ht : t ≤ 4) (h : post 1) : wpY_isSnapshot post (f1, nI t, S, W, mk, sv, bf) (nI c) :=
  br_f (nI_pos (by omega)) (br_f (nI_ge hc (by omega)) h)
theorem ic_Ysn {post : Int32 → Prop} {x : Int32} {t : Nat} (hx : x < 0 ∨ nI t ≤ x) (h : post 0) : wpY_isSnapshot post (f1, nI t, S, W, mk, sv, bf) x :=
  br_c (fun _ => h) fun h0 => br_t (hx.resolve_left h0) h
theorem ic_Ynote {post : SY → Prop} {L : Nat} (hL : L ≤ 4) (h : post (nI L, f2, S, W, mk, sv, ic_rg 0 16 (ic_w S W L) bf)) : wpY_noteWords post (nI L, f2, S, W, mk, sv, bf) := by
  have g : ∀ d i, i + d = 16 → wY_noteWords_2 post (nI L) f2 (d + 1) (nI i) S W mk sv (ic_rg 0 i (ic_w S W L) bf) := by
    intro d
    induction d with
    | zero =>
      intro i hi
      obtain rfl : i = 16 := by omega
      exact br_t ic_16t h
    | succ d ih =>
      intro i hi
      refine br_f (ic_16f (by omega)) (ic_Ywp hL (by omega) ⟨vp_in_nI (by omega) (by decide), fun b1 e1 y ey => ?_⟩)
      rw [nI_clamp (by omega), ic_rg_st (by omega) rfl] at e1
      rw [ey, nI_1, e1]
      exact ih (i + 1) (by omega)
  have g0 := g 16 0 (by omega)
  rw [ic_rg_0] at g0
  exact ⟨_, g0⟩
theorem ic_Ychg {post : Int32 → SY → Prop} {L : Nat} (hL : L ≤ 4) (h : post (ic_D bf (ic_w S W L)) (nI L, f2, S, W, ic_M bf (ic_w S W L) mk, sv, bf)) : wpY_markChanges post (nI L, f2, S, W, mk, sv, bf) := by
  have g : ∀ d i, i + d = 16 → wY_markChanges_4 post (nI L) f2 (d + 1) (ic_s (ic_d bf (ic_w S W L)) i) (nI i) S W (ic_rg 0 i (ic_m bf (ic_w S W L) mk) mk) sv bf := by
    intro d
    induction d with
    | zero =>
      intro i hi
      obtain rfl : i = 16 := by omega
      exact br_t ic_16t h
    | succ d ih =>
      intro i hi
      have hin : vp_in (nI i) 16 := vp_in_nI (by omega) (by decide)
      have g := ih (i + 1) (by omega)
      refine br_f (ic_16f (by omega)) ⟨hin, ic_Ywp hL (by omega) ?_⟩
      refine br_c (fun z y ey => ?_) fun z => ⟨hin, fun m1 e1 y ey q eq => ?_⟩
      · rw [nI_clamp (by omega)] at z
        rw [← ic_rg_k (p := ic_m bf (ic_w S W L) mk) (ic_m0 z)] at g
        rw [ey, nI_1, ic_s_k (ic_d0 z)]
        exact g
      · rw [nI_clamp (by omega)] at z
        rw [nI_clamp (by omega), ic_n1, ic_rg_st (by omega) (ic_m1' z).symm] at e1
        rw [ey, eq, nI_1, e1, ic_s_1 (ic_d1 z)]
        exact g
  have g0 := g 16 0 (by omega)
  rw [ic_rg_0] at g0
  exact ⟨_, g0⟩
theorem ic_Ycopy {post : SY → Prop} {x y : Nat} {X Y : Int32} (hX : X = nI x) (hY : Y = nI y) (hx : x ≤ 7) (hy : y ≤ 7) (hxy : x ≠ y) (h01 : ∀ j, S j = 0 ∨ S j = 1)
    (h : post (f1, f2, ic_rg (16 * y) (16 * y + 16) (fun j => S (j - 16 * y + 16 * x)) S, ic_rg (16 * y) (16 * y + 16) (fun j => W (j - 16 * y + 16 * x)) W, mk, sv, bf)) : wpY_copyList post (f1, f2, S, W, mk, sv, bf) X Y := by
  subst hX hY
  have g : ∀ d i, i + d = 16 → wY_copyList_2 post (nI x) (nI y) f1 f2 (d + 1) (nI i) (ic_rg (16 * y) (16 * y + i) (fun j => S (j - 16 * y + 16 * x)) S) (ic_rg (16 * y) (16 * y + i) (fun j => W (j - 16 * y + 16 * x)) W) mk sv bf := by
    intro d
    induction d with
    | zero =>
      intro i hi
      obtain rfl : i = 16 := by omega
      exact br_t ic_16t h
    | succ d ih =>
      intro i hi
      have hix : vp_in (16 * nI x + nI i) 128 := by
        rw [ic_iy]
        exact vp_in_nI (by omega) (by decide)
      have hiy : vp_in (16 * nI y + nI i) 128 := by
        rw [ic_iy]
        exact vp_in_nI (by omega) (by decide)
      refine br_f (ic_16f (by omega)) ⟨hix, hiy, fun s1 e1 => ⟨hix, hiy, fun w1 e2 z ez => ?_⟩⟩
      have ec : 16 * x + i = 16 * y + i - 16 * y + 16 * x := by omega
      rw [ic_iy, ic_iy, nI_clamp (by omega), nI_clamp (by omega), ic_rg_out (by omega), ic_n (h01 _), ic_rg_st (p := fun j => S (j - 16 * y + 16 * x)) (by omega) (congrArg S ec)] at e1
      rw [ic_iy, ic_iy, nI_clamp (by omega), nI_clamp (by omega), ic_rg_out (by omega), ic_rg_st (p := fun j => W (j - 16 * y + 16 * x)) (by omega) (congrArg W ec)] at e2
      rw [ez, nI_1, e1, e2]
      exact ih (i + 1) (by omega)
  have g0 := g 16 0 (by omega)
  rw [ic_rg_z, ic_rg_z] at g0
  exact ⟨_, g0⟩
theorem ic_Ycs {post : Int32 → Prop} {x : Nat} {X : Int32} (hX : X = nI x) (hx : x ≤ 7) (h : post (ic_s (ic_b (fun k => S (16 * x + k))) 16)) : wpY_countSaid post (f1, f2, S, W, mk, sv, bf) X := by
  subst hX
  have g : ∀ d i, i + d = 16 → wY_countSaid_4 post (nI x) f1 f2 S W mk sv bf (d + 1) (ic_s (ic_b (fun k => S (16 * x + k))) i) (nI i) := by
    intro d
    induction d with
    | zero =>
      intro i hi
      obtain rfl : i = 16 := by omega
      exact br_t ic_16t h
    | succ d ih =>
      intro i hi
      have hix : vp_in (16 * nI x + nI i) 128 := by
        rw [ic_iy]
        exact vp_in_nI (by omega) (by decide)
      refine br_f (ic_16f (by omega)) ⟨hix, br_c (fun z y ey => ?_) fun z y ey q eq => ?_⟩
      · rw [ic_iy, nI_clamp (by omega)] at z
        rw [ey, nI_1, ic_s_k (ic_b0 (f := fun k => S (16 * x + k)) z)]
        exact ih (i + 1) (by omega)
      · rw [ic_iy, nI_clamp (by omega)] at z
        rw [ey, eq, nI_1, ic_s_1 (ic_b1 (f := fun k => S (16 * x + k)) z)]
        exact ih (i + 1) (by omega)
  exact ⟨_, g 16 0 (by omega)⟩
theorem ic_Yfill {post : Int32 → SY → Prop} {l a D : Nat} {x : Int32} (hl : l ≤ 3) (hD : D < 16) (ha : a ≤ D)
    (h : post (ic_D bf (ic_w (ic_rg (16 * l + a) (16 * l + (D + 1)) (fun _ => 1) S) (ic_rg (16 * l + a) (16 * l + (D + 1)) (fun _ => x) W) (l + 1)))
      (nI (l + 1), f2, ic_rg (16 * l + a) (16 * l + (D + 1)) (fun _ => 1) S, ic_rg (16 * l + a) (16 * l + (D + 1)) (fun _ => x) W, ic_M bf (ic_w (ic_rg (16 * l + a) (16 * l + (D + 1)) (fun _ => 1) S) (ic_rg (16 * l + a) (16 * l + (D + 1)) (fun _ => x) W) (l + 1)) mk, sv, bf)) :
    ∃ n, wY_fill_30 post (nI D) x (nI (l + 1)) f2 n (nI a) S W mk sv bf := by
  have g : ∀ d i, i + d = D + 1 → a ≤ i → wY_fill_30 post (nI D) x (nI (l + 1)) f2 (d + 1) (nI i) (ic_rg (16 * l + a) (16 * l + i) (fun _ => 1) S) (ic_rg (16 * l + a) (16 * l + i) (fun _ => x) W) mk sv bf := by
    intro d
    induction d with
    | zero =>
      intro i hi hai
      obtain rfl : i = D + 1 := by omega
      exact br_t (nI_lt (by omega) (by omega)) (ic_Ychg (by omega) h)
    | succ d ih =>
      intro i hi hai
      have hix : vp_in (16 * (nI (l + 1) - 1) + nI i) 128 := by
        rw [ic_iy1]
        exact vp_in_nI (by omega) (by decide)
      refine br_f (nI_nlt (by omega) (by omega)) ⟨hix, fun s1 e1 => ⟨hix, fun w1 e2 z ez => ?_⟩⟩
      rw [ic_iy1, nI_clamp (by omega), ic_n1, ic_rg_st (by omega) rfl] at e1
      rw [ic_iy1, nI_clamp (by omega), ic_rg_st (by omega) rfl] at e2
      rw [ez, nI_1, e1, e2]
      exact ih (i + 1) (by omega) (by omega)
  have g0 := g (D + 1 - a) a (by omega) (by omega)
  rw [ic_rg_0, ic_rg_0] at g0
  exact ⟨_, g0⟩
theorem ic_Yover {post : Int32 → SY → Prop} {l : Nat} (hl : l ≤ 3) (h : post (nI (l + 1)) (nI (l + 1), f2, ic_rg (16 * l) (16 * l + 16) (fun _ => 0) S, W, mk, sv, bf)) :
    ∃ n, wY_overlay_23 post (nI l) f2 n 0 S W mk sv bf := by
  have g : ∀ d i, i + d = 16 → wY_overlay_23 post (nI l) f2 (d + 1) (nI i) (ic_rg (16 * l) (16 * l + i) (fun _ => 0) S) W mk sv bf := by
    intro d
    induction d with
    | zero =>
      intro i hi
      obtain rfl : i = 16 := by omega
      refine br_t ic_16t fun y ey => ?_
      rw [ey, nI_1]
      exact h
    | succ d ih =>
      intro i hi
      have hix : vp_in (16 * nI l + nI i) 128 := by
        rw [ic_iy]
        exact vp_in_nI (by omega) (by decide)
      refine br_f (ic_16f (by omega)) ⟨hix, fun s1 e1 z ez => ?_⟩
      rw [ic_iy, nI_clamp (by omega), ic_n0, ic_rg_st (by omega) rfl] at e1
      rw [ez, nI_1, e1]
      exact ih (i + 1) (by omega)
  have g0 := g 16 0 (by omega)
  rw [ic_rg_z] at g0
  exact ⟨_, g0⟩
theorem ic_Ycom {post : Int32 → SY → Prop} {m : Nat} (hm : m ≤ 2)
    (h : post (ic_s (ic_b (fun k => S (16 * (m + 1) + k))) 16) (nI (m + 1), f2, ic_rg (16 * m) (16 * m + 16) (ic_ps S) S, ic_rg (16 * m) (16 * m + 16) (ic_pw S W) W, mk, sv, bf)) :
    ∃ n, wY_commit_27 post (nI (m + 1)) (nI (m + 1 + 1)) f2 n 0 S W mk sv bf := by
  have g : ∀ d i, i + d = 16 → wY_commit_27 post (nI (m + 1)) (nI (m + 1 + 1)) f2 (d + 1) (nI i) (ic_rg (16 * m) (16 * m + i) (ic_ps S) S) (ic_rg (16 * m) (16 * m + i) (ic_pw S W) W) mk sv bf := by
    intro d
    induction d with
    | zero =>
      intro i hi
      obtain rfl : i = 16 := by omega
      refine br_t ic_16t fun y ey => ?_
      rw [ey, nI_pred]
      refine ic_Ycs rfl (by omega) ?_
      have e : ic_s (ic_b (fun k => ic_rg (16 * m) (16 * m + 16) (ic_ps S) S (16 * (m + 1) + k))) 16 = ic_s (ic_b (fun k => S (16 * (m + 1) + k))) 16 := by
        exact ic_s_cong 16 fun k hk => ic_b_cong (ic_rg_out (by omega))
      rw [e]
      exact h
    | succ d ih =>
      intro i hi
      have hix : vp_in (16 * nI (m + 1) + nI i) 128 := by
        rw [ic_iy]
        exact vp_in_nI (by omega) (by decide)
      have hiy : vp_in (16 * (nI (m + 1) - 1) + nI i) 128 := by
        rw [ic_iy1]
        exact vp_in_nI (by omega) (by decide)
      have g := ih (i + 1) (by omega)
      refine br_f (ic_16f (by omega)) ⟨hix, br_c (fun z y ey => ?_) fun z => ⟨hiy, fun s1 e1 => ⟨hix, hiy, fun w1 e2 y ey => ?_⟩⟩⟩
      · rw [ic_iy, nI_clamp (by omega), ic_rg_out (by omega), show 16 * (m + 1) + i = 16 * m + i + 16 by omega] at z
        rw [← Nat.add_assoc, ← ic_rg_k (p := ic_ps S) (ic_ps0 z), ← ic_rg_k (p := ic_pw S W) (ic_pw0 z)] at g
        rw [ey, nI_1]
        exact g
      · rw [ic_iy, nI_clamp (by omega), ic_rg_out (by omega), show 16 * (m + 1) + i = 16 * m + i + 16 by omega] at z
        rw [ic_iy1, nI_clamp (by omega), ic_n1, ic_rg_st (by omega) (ic_ps1 z).symm] at e1
        rw [ic_iy1, ic_iy, nI_clamp (by omega), nI_clamp (by omega), ic_rg_out (by omega), show 16 * (m + 1) + i = 16 * m + i + 16 by omega, ic_rg_st (by omega) (ic_pw1 z).symm] at e2
        rw [ey, nI_1, e1, e2]
        exact g
  have g0 := g 16 0 (by omega)
  rw [ic_rg_z, ic_rg_z] at g0
  exact ⟨_, g0⟩
theorem ic_Ypull {post : Int32 → SY → Prop} {m : Nat} (hm : m ≤ 2)
    (h : post (nI (m + 1)) (nI (m + 1), f2, ic_rg (16 * m) (16 * m + 16) (ic_ps S) S, ic_rg (16 * m) (16 * m + 16) (ic_pw S W) W, mk, sv, bf)) :
    ∃ n, wY_pull_20 post (nI (m + 1)) (nI (m + 1 + 1)) f2 n 0 S W mk sv bf := by
  have g : ∀ d i, i + d = 16 → wY_pull_20 post (nI (m + 1)) (nI (m + 1 + 1)) f2 (d + 1) (nI i) (ic_rg (16 * m) (16 * m + i) (ic_ps S) S) (ic_rg (16 * m) (16 * m + i) (ic_pw S W) W) mk sv bf := by
    intro d
    induction d with
    | zero =>
      intro i hi
      obtain rfl : i = 16 := by omega
      refine br_t ic_16t fun y ey => ?_
      rw [ey, nI_pred]
      exact h
    | succ d ih =>
      intro i hi
      have hix : vp_in (16 * nI (m + 1) + nI i) 128 := by
        rw [ic_iy]
        exact vp_in_nI (by omega) (by decide)
      have hiy : vp_in (16 * (nI (m + 1) - 1) + nI i) 128 := by
        rw [ic_iy1]
        exact vp_in_nI (by omega) (by decide)
      have g := ih (i + 1) (by omega)
      refine br_f (ic_16f (by omega)) ⟨hix, br_c (fun z y ey => ?_) fun z => ⟨hiy, fun s1 e1 => ⟨hix, hiy, fun w1 e2 y ey => ?_⟩⟩⟩
      · rw [ic_iy, nI_clamp (by omega), ic_rg_out (by omega), show 16 * (m + 1) + i = 16 * m + i + 16 by omega] at z
        rw [← Nat.add_assoc, ← ic_rg_k (p := ic_ps S) (ic_ps0 z), ← ic_rg_k (p := ic_pw S W) (ic_pw0 z)] at g
        rw [ey, nI_1]
        exact g
      · rw [ic_iy, nI_clamp (by omega), ic_rg_out (by omega), show 16 * (m + 1) + i = 16 * m + i + 16 by omega] at z
        rw [ic_iy1, nI_clamp (by omega), ic_n1, ic_rg_st (by omega) (ic_ps1 z).symm] at e1
        rw [ic_iy1, ic_iy, nI_clamp (by omega), nI_clamp (by omega), ic_rg_out (by omega), show 16 * (m + 1) + i = 16 * m + i + 16 by omega, ic_rg_st (by omega) (ic_pw1 z).symm] at e2
        rw [ey, nI_1, e1, e2]
        exact g
  have g0 := g 16 0 (by omega)
  rw [ic_rg_z, ic_rg_z] at g0
  exact ⟨_, g0⟩
end
end
section
/-! the reference's other loops -/
section
variable {f1 f2 : Int32} {S W mk sv bf : Nat → Int32}
/-- the lists behind snapshot r moved down, up to list x: one more -/
theorem ic_fg {G : Nat → Int32} {r x : Nat} (hr : r ≤ x) : ic_rg (16 * (4 + x)) (16 * (4 + x) + 16) (fun j => ic_rg (64 + 16 * r) (64 + 16 * x) (fun j => G (j + 16)) G (j - 16 * (4 + x) + 16 * (5 + x))) (ic_rg (64 + 16 * r) (64 + 16 * x) (fun j => G (j + 16)) G) = ic_rg (64 + 16 * r) (64 + 16 * (x + 1)) (fun j => G (j + 16)) G := by
  funext j
  by_cases h1 : 16 * (4 + x) ≤ j ∧ j < 16 * (4 + x) + 16
  · rw [ic_rg_in h1.1 h1.2, ic_rg_in (j := j) (by omega) (by omega), ic_rg_out (by omega)]
    exact congrArg G (by omega)
  · rw [ic_rg_out (by omega)]
    exact ic_rg_eq (by omega)
theorem ic_fg01 {G : Nat → Int32} {lo hi : Nat} (h01 : ∀ j, G j = 0 ∨ G j = 1) : ∀ j, ic_rg lo hi (fun j => G (j + 16)) G j = 0 ∨ ic_rg lo hi (fun j => G (j + 16)) G j = 1 :=
  ic_rg_01 (fun j _ _ => h01 (j + 16)) h01
theorem ic_Yforg {post : Int32 → SY → Prop} {r t : Nat} (ht : t ≤ 3) (hr : r ≤ t) (h01 : ∀ j, S j = 0 ∨ S j = 1)
    (h : post (nI t) (f1, nI t, ic_rg (64 + 16 * r) (64 + 16 * t) (fun j => S (j + 16)) S, ic_rg (64 + 16 * r) (64 + 16 * t) (fun j => W (j + 16)) W, mk, sv, bf)) :
    ∃ n, wY_forget_13 post n (nI r) f1 (nI (t + 1)) S W mk sv bf := by
  have g : ∀ d x, x + d = t → r ≤ x → wY_forget_13 post (d + 1) (nI x) f1 (nI (t + 1)) (ic_rg (64 + 16 * r) (64 + 16 * x) (fun j => S (j + 16)) S) (ic_rg (64 + 16 * r) (64 + 16 * x) (fun j => W (j + 16)) W) mk sv bf := by
    intro d
    induction d with
    | zero =>
      intro x hx hrx
      obtain rfl : x = t := by omega
      refine br_t ?_ fun y ey => ?_
      · rw [nI_pred]
        exact nI_le (Nat.le_refl _) (by omega)
      · rw [ey, nI_pred]
        exact h
    | succ d ih =>
      intro x hx hrx
      refine br_f ?_ (ic_Ycopy (x := 5 + x) (y := 4 + x) (nI_add 5 x) (nI_add 4 x) (by omega) (by omega) (by omega) (ic_fg01 h01) ?_)
      · rw [nI_pred]
        exact nI_ge (by omega) (by omega)
      · rw [ic_fg hrx, ic_fg hrx]
        intro y ey
        rw [ey, nI_1]
        exact ih (x + 1) (by omega) (by omega)
  have g0 := g (t - r) r (by omega) (by omega)
  rw [ic_rg_0, ic_rg_0] at g0
  exact ⟨_, g0⟩
theorem ic_Ymark {post : Int32 → Prop} (h : post (ic_s (ic_b mk) 16)) : wpY_marked post (f1, f2, S, W, mk, sv, bf) := by
  have g : ∀ d i, i + d = 16 → wY_marked_4 post f1 f2 S W mk sv bf (d + 1) (ic_s (ic_b mk) i) (nI i) := by
    intro d
    induction d with
    | zero =>
      intro i hi
      obtain rfl : i = 16 := by omega
      exact br_t ic_16t h
    | succ d ih =>
      intro i hi
      refine br_f (ic_16f (by omega)) ⟨vp_in_nI (by omega) (by decide), br_c (fun z y ey => ?_) fun z y ey q eq => ?_⟩
      · rw [nI_clamp (by omega)] at z
        rw [ey, nI_1, ic_s_k (ic_b0 z)]
        exact ih (i + 1) (by omega)
      · rw [nI_clamp (by omega)] at z
        rw [ey, eq, nI_1, ic_s_1 (ic_b1 z)]
        exact ih (i + 1) (by omega)
  exact ⟨_, g 16 0 (by omega)⟩
theorem ic_Yback {post : Int32 → SY → Prop} {L : Nat} {x : Int32} (hL : L ≤ 4) (h : post x (nI L, f2, S, W, ic_rg 0 16 (fun _ => 0) mk, ic_rg 0 16 (ic_sv mk sv (ic_w S W L)) sv, bf)) : ∃ n, wY_backup_7 post x (nI L) f2 n 0 S W mk sv bf := by
  have g : ∀ d i, i + d = 16 → wY_backup_7 post x (nI L) f2 (d + 1) (nI i) S W (ic_rg 0 i (fun _ => 0) mk) (ic_rg 0 i (ic_sv mk sv (ic_w S W L)) sv) bf := by
    intro d
    induction d with
    | zero =>
      intro i hi
      obtain rfl : i = 16 := by omega
      exact br_t ic_16t h
    | succ d ih =>
      intro i hi
      have hin : vp_in (nI i) 16 := vp_in_nI (by omega) (by decide)
      have g := ih (i + 1) (by omega)
      refine br_f (ic_16f (by omega)) ⟨hin, br_c (fun z y ey => ?_) fun z => ?_⟩
      · rw [nI_clamp (by omega), ic_rg_out (by omega)] at z
        rw [← ic_rg_k (p := fun _ => 0) z.symm, ← ic_rg_k (p := ic_sv mk sv (ic_w S W L)) (ic_sv0 z)] at g
        rw [ey, nI_1]
        exact g
      · rw [nI_clamp (by omega), ic_rg_out (by omega)] at z
        refine ic_Ywp hL (by omega) ⟨hin, fun v1 e1 => ⟨hin, fun m1 e2 y ey => ?_⟩⟩
        rw [nI_clamp (by omega), ic_rg_st (by omega) (ic_sv1 z).symm] at e1
        rw [nI_clamp (by omega), ic_n0, ic_rg_st (by omega) rfl] at e2
        rw [ey, nI_1, e1, e2]
        exact g
  have g0 := g 16 0 (by omega)
  rw [ic_rg_0, ic_rg_0] at g0
  exact ⟨_, g0⟩
theorem ic_Ybeh {post : Int32 → Prop} {L : Nat} (hL : L ≤ 4) (h : post (ic_D sv (ic_w S W L))) : wpY_behind post (nI L, f2, S, W, mk, sv, bf) := by
  have g : ∀ d i, i + d = 16 → wY_behind_4 post (nI L) f2 S W mk sv bf (d + 1) (ic_s (ic_d sv (ic_w S W L)) i) (nI i) := by
    intro d
    induction d with
    | zero =>
      intro i hi
      obtain rfl : i = 16 := by omega
      exact br_t ic_16t h
    | succ d ih =>
      intro i hi
      refine br_f (ic_16f (by omega)) ⟨vp_in_nI (by omega) (by decide), ic_Ywp hL (by omega) ?_⟩
      refine br_c (fun z y ey => ?_) fun z y ey q eq => ?_
      · rw [nI_clamp (by omega)] at z
        rw [ey, nI_1, ic_s_k (ic_d0 z)]
        exact ih (i + 1) (by omega)
      · rw [nI_clamp (by omega)] at z
        rw [ey, eq, nI_1, ic_s_1 (ic_d1 z)]
        exact ih (i + 1) (by omega)
  exact ⟨_, g 16 0 (by omega)⟩
theorem ic_Ydig {post : Int32 → Prop} {L : Nat} (hL : L ≤ 4) (h : post (ic_s (fun k => (nI k + 1) * ic_w S W L k) 16)) : wpY_digest post (nI L, f2, S, W, mk, sv, bf) := by
  have g : ∀ d i, i + d = 16 → wY_digest_4 post (nI L) f2 S W mk sv bf (d + 1) (ic_s (fun k => (nI k + 1) * ic_w S W L k) i) (nI i) := by
    intro d
    induction d with
    | zero =>
      intro i hi
      obtain rfl : i = 16 := by omega
      exact br_t ic_16t h
    | succ d ih =>
      intro i hi
      refine br_f (ic_16f (by omega)) (ic_Ywp hL (by omega) ?_)
      intro y ey q eq
      rw [eq, nI_1 i, ey]
      exact ih (i + 1) (by omega)
  exact ⟨_, g 16 0 (by omega)⟩
end
end
section
/-! the relation, and what a change of both sides leaves of it -/
section
variable {l t : Nat} {iS iW sS sW S W mk sv bf : Nat → Int32}
/-- l + 1 images, t snapshots: both sides say the same, and where they say a word it is the same; the component's images above the top say nothing -/
def ic_R (l t : Nat) (iS iW sS sW S W : Nat → Int32) : Prop :=
  (∀ j, iS j = 0 ∨ iS j = 1) ∧ (∀ j, sS j = 0 ∨ sS j = 1) ∧ (∀ j, S j = 0 ∨ S j = 1) ∧
  (∀ j, 16 * (l + 1) ≤ j → iS j = 0) ∧
  (∀ j, j < 16 * (l + 1) → iS j = S j ∧ (iS j ≠ 0 → iW j = W j)) ∧
  (∀ j, j < 16 * t → sS j = S (64 + j) ∧ (sS j ≠ 0 → sW j = W (64 + j)))
/-- the relation at the head of a turn -/
def i_Rel (k : Nat) (u : SX) (v : SY) : Prop :=
  ∃ (l t : Nat) (iS iW sS sW mk sv S W bf : Nat → Int32), l ≤ 3 ∧ t ≤ 4 ∧ ic_R l t iS iW sS sW S W ∧ u = (nI (l + 1), nI t, iS, iW, sS, sW, mk, sv) ∧ v = (nI (l + 1), nI t, S, W, mk, sv, bf)
theorem ic_fin {k : Nat} {mk' sv' : Nat → Int32} (hl : l ≤ 3) (ht : t ≤ 4) (H : ic_R l t iS iW sS sW S W) (e1 : mk' = mk) (e2 : sv' = sv) : i_Rel k (nI (l + 1), nI t, iS, iW, sS, sW, mk, sv) (nI (l + 1), nI t, S, W, mk', sv', bf) := by
  subst e1 e2
  exact ⟨l, t, iS, iW, sS, sW, mk', sv', S, W, bf, hl, ht, H, rfl, rfl⟩
theorem ic_R_w (H : ic_R l t iS iW sS sW S W) {L k : Nat} (hL : L ≤ l + 1) (hk : k < 16) : ic_w iS iW L k = ic_w S W L k :=
  ic_w_cong L fun i hi => H.2.2.2.2.1 (16 * i + k) (by omega)
theorem ic_R_put {a b : Nat} {p q p' q' : Nat → Int32} (H : ic_R l t iS iW sS sW S W) (hl : l ≤ 3) (hb : b ≤ 16) (h01 : ∀ j, p j = 0 ∨ p j = 1)
    (hp : ∀ j, 16 * l + a ≤ j → j < 16 * l + b → p j = p' j ∧ (p j ≠ 0 → q j = q' j)) :
    ic_R l t (ic_rg (16 * l + a) (16 * l + b) p iS) (ic_rg (16 * l + a) (16 * l + b) q iW) sS sW (ic_rg (16 * l + a) (16 * l + b) p' S) (ic_rg (16 * l + a) (16 * l + b) q' W) := by
  obtain ⟨h1, h2, h3, h4, h5, h6⟩ := H
  refine ⟨ic_rg_01 (fun j _ _ => h01 j) h1, h2, ic_rg_01 (fun j a b => by rw [← (hp j a b).1]; exact h01 j) h3, fun j hj => ?_, fun j hj => ?_, fun j hj => ?_⟩
  · rw [ic_rg_out (by omega)]
    exact h4 j hj
  · by_cases h : 16 * l + a ≤ j ∧ j < 16 * l + b
    · rw [ic_rg_in h.1 h.2, ic_rg_in h.1 h.2, ic_rg_in h.1 h.2, ic_rg_in h.1 h.2]
      exact hp j h.1 h.2
    · rw [ic_rg_out (by omega), ic_rg_out (by omega), ic_rg_out (by omega), ic_rg_out (by omega)]
      exact h5 j hj
  · rw [ic_rg_out (by omega), ic_rg_out (by omega)]
    exact h6 j hj
theorem ic_R_M {t' : Nat} {iS' iW' sS' sW' S' W' : Nat → Int32} (H : ic_R l t iS iW sS sW S W) (H' : ic_R l t' iS' iW' sS' sW' S' W') : ic_M (ic_rg 0 16 (ic_w S W (l + 1)) bf) (ic_w S' W' (l + 1)) mk = ic_M (ic_w iS iW (l + 1)) (ic_w iS' iW' (l + 1)) mk :=
  ic_M_cong fun k hk => ⟨(ic_rg_in (by omega) hk).trans (ic_R_w H (Nat.le_refl _) hk).symm, (ic_R_w H' (Nat.le_refl _) hk).symm⟩
theorem ic_R_D {t' : Nat} {iS' iW' sS' sW' S' W' : Nat → Int32} (H : ic_R l t iS iW sS sW S W) (H' : ic_R l t' iS' iW' sS' sW' S' W') : ic_D (ic_rg 0 16 (ic_w S W (l + 1)) bf) (ic_w S' W' (l + 1)) = ic_D (ic_w iS iW (l + 1)) (ic_w iS' iW' (l + 1)) :=
  ic_D_cong fun k hk => ⟨(ic_rg_in (by omega) hk).trans (ic_R_w H (Nat.le_refl _) hk).symm, (ic_R_w H' (Nat.le_refl _) hk).symm⟩
theorem ic_R_said (H : ic_R l t iS iW sS sW S W) : ic_s (ic_b (fun k => S (16 * l + k))) 16 = ic_s (ic_b (fun k => iS (16 * l + k))) 16 :=
  ic_s_cong 16 fun k hk => ic_b_cong (H.2.2.2.2.1 (16 * l + k) (by omega)).1.symm
/-- overlay -/
theorem ic_R_over (H : ic_R l t iS iW sS sW S W) (hl : l ≤ 2) : ic_R (l + 1) t iS iW sS sW (ic_rg (16 * (l + 1)) (16 * (l + 1) + 16) (fun _ => 0) S) W := by
  obtain ⟨h1, h2, h3, h4, h5, h6⟩ := H
  refine ⟨h1, h2, ic_rg_01 (fun j _ _ => Or.inl rfl) h3, fun j hj => h4 j (by omega), fun j hj => ?_, fun j hj => ?_⟩
  · by_cases h : 16 * (l + 1) ≤ j
    · rw [ic_rg_in h (by omega), h4 j h]
      exact ⟨rfl, fun z => absurd rfl z⟩
    · rw [ic_rg_out (by omega)]
      exact h5 j (by omega)
  · rw [ic_rg_out (by omega)]
    exact h6 j hj
/-- commit and pull -/
theorem ic_R_mrg {m : Nat} (H : ic_R (m + 1) t iS iW sS sW S W) (hm : m ≤ 2) : ic_R m t (ic_rg (16 * (m + 1)) (16 * (m + 1) + 16) (fun _ => 0) (ic_rg (16 * m) (16 * m + 16) (ic_ps iS) iS)) (ic_rg (16 * m) (16 * m + 16) (ic_pw iS iW) iW) sS sW (ic_rg (16 * m) (16 * m + 16) (ic_ps S) S) (ic_rg (16 * m) (16 * m + 16) (ic_pw S W) W) := by
  obtain ⟨h1, h2, h3, h4, h5, h6⟩ := H
  have hps : ∀ G : Nat → Int32, (∀ j, G j = 0 ∨ G j = 1) → ∀ j, ic_ps G j = 0 ∨ ic_ps G j = 1 := by
    intro G hG j
    by_cases z : G (j + 16) = 0
    · rw [ic_ps0 z]
      exact hG j
    · rw [ic_ps1 z]
      exact Or.inr rfl
  refine ⟨ic_rg_01 (fun j _ _ => Or.inl rfl) (ic_rg_01 (fun j _ _ => hps iS h1 j) h1), h2, ic_rg_01 (fun j _ _ => hps S h3 j) h3, fun j hj => ?_, fun j hj => ?_, fun j hj => ?_⟩
  · by_cases h : j < 16 * (m + 1) + 16
    · rw [ic_rg_in hj h]
    · rw [ic_rg_out (by omega), ic_rg_out (by omega)]
      exact h4 j (by omega)
  · rw [ic_rg_out (by omega)]
    by_cases h : 16 * m ≤ j
    · rw [ic_rg_in h (by omega), ic_rg_in h (by omega), ic_rg_in h (by omega), ic_rg_in h (by omega)]
      obtain ⟨a1, a2⟩ := h5 j (by omega)
      obtain ⟨b1, b2⟩ := h5 (j + 16) (by omega)
      by_cases z : iS (j + 16) = 0
      · rw [ic_ps0 z, ic_ps0 (b1 ▸ z), ic_pw0 z, ic_pw0 (b1 ▸ z)]
        exact ⟨a1, a2⟩
      · rw [ic_ps1 z, ic_ps1 (b1 ▸ z), ic_pw1 z, ic_pw1 (b1 ▸ z)]
        exact ⟨rfl, fun _ => b2 z⟩
    · rw [ic_rg_out (by omega), ic_rg_out (by omega), ic_rg_out (by omega), ic_rg_out (by omega)]
      exact h5 j (by omega)
  · rw [ic_rg_out (by omega), ic_rg_out (by omega)]
    exact h6 j hj
/-- abandon -/
theorem ic_R_aban {m : Nat} (H : ic_R (m + 1) t iS iW sS sW S W) : ic_R m t (ic_rg (16 * (m + 1) + 0) (16 * (m + 1) + 16) (fun _ => 0) iS) (ic_rg (16 * (m + 1) + 0) (16 * (m + 1) + 16) (fun _ => 0) iW) sS sW S W := by
  obtain ⟨h1, h2, h3, h4, h5, h6⟩ := H
  refine ⟨ic_rg_01 (fun j _ _ => Or.inl rfl) h1, h2, h3, fun j hj => ?_, fun j hj => ?_, h6⟩
  · by_cases h : j < 16 * (m + 1) + 16
    · exact ic_rg_in (by omega) h
    · rw [ic_rg_out (by omega)]
      exact h4 j (by omega)
  · rw [ic_rg_out (by omega), ic_rg_out (by omega)]
    exact h5 j (by omega)
theorem ic_w_aban {l k : Nat} {s w : Nat → Int32} (hk : k < 16) : ic_w (ic_rg (16 * l + 0) (16 * l + 16) (fun _ => 0) s) (ic_rg (16 * l + 0) (16 * l + 16) (fun _ => 0) w) (l + 1) k = ic_w s w l k := by
  rw [ic_w0 (ic_rg_in (by omega) (by omega))]
  exact ic_w_cong l fun i hi => ⟨ic_rg_out (by omega), fun _ => ic_rg_out (by omega)⟩
/-- snapshot -/
theorem ic_R_snap (H : ic_R l t iS iW sS sW S W) (hl : l ≤ 3) : ic_R l (t + 1) iS iW (ic_rg (16 * t) (16 * t + 16) (fun j => iS (j - 16 * t + 16 * l)) sS) (ic_rg (16 * t) (16 * t + 16) (fun j => iW (j - 16 * t + 16 * l)) sW)
    (ic_rg (16 * (4 + t)) (16 * (4 + t) + 16) (fun j => S (j - 16 * (4 + t) + 16 * l)) S) (ic_rg (16 * (4 + t)) (16 * (4 + t) + 16) (fun j => W (j - 16 * (4 + t) + 16 * l)) W) := by
  obtain ⟨h1, h2, h3, h4, h5, h6⟩ := H
  refine ⟨h1, ic_rg_01 (fun j _ _ => h1 _) h2, ic_rg_01 (fun j _ _ => h3 _) h3, h4, fun j hj => ?_, fun j hj => ?_⟩
  · rw [ic_rg_out (by omega), ic_rg_out (by omega)]
    exact h5 j hj
  · by_cases h : 16 * t ≤ j
    · rw [ic_rg_in h (by omega), ic_rg_in h (by omega), ic_rg_in (j := 64 + j) (by omega) (by omega), ic_rg_in (j := 64 + j) (by omega) (by omega)]
      rw [show 64 + j - 16 * (4 + t) + 16 * l = j - 16 * t + 16 * l by omega]
      exact h5 (j - 16 * t + 16 * l) (by omega)
    · rw [ic_rg_out (by omega), ic_rg_out (by omega), ic_rg_out (by omega), ic_rg_out (by omega)]
      exact h6 j (by omega)
/-- forget -/
theorem ic_R_forg {r : Nat} (H : ic_R l (t + 1) iS iW sS sW S W) (hl : l ≤ 3) : ic_R l t iS iW (ic_rg (16 * r) (16 * t) (fun j => sS (j + 16)) sS) (ic_rg (16 * r) (16 * t) (fun j => sW (j + 16)) sW)
    (ic_rg (64 + 16 * r) (64 + 16 * t) (fun j => S (j + 16)) S) (ic_rg (64 + 16 * r) (64 + 16 * t) (fun j => W (j + 16)) W) := by
  obtain ⟨h1, h2, h3, h4, h5, h6⟩ := H
  refine ⟨h1, ic_fg01 h2, ic_fg01 h3, h4, fun j hj => ?_, fun j hj => ?_⟩
  · rw [ic_rg_out (by omega), ic_rg_out (by omega)]
    exact h5 j hj
  · by_cases h : 16 * r ≤ j
    · rw [ic_rg_in h (by omega), ic_rg_in h (by omega), ic_rg_in (j := 64 + j) (by omega) (by omega), ic_rg_in (j := 64 + j) (by omega) (by omega)]
      exact h6 (j + 16) (by omega)
    · rw [ic_rg_out (by omega), ic_rg_out (by omega), ic_rg_out (by omega), ic_rg_out (by omega)]
      exact h6 j (by omega)
theorem ic_cl (x : Int32) : (x < 0 ∨ (16 : Int32) ≤ x) ∨ ∃ c : Nat, c < 16 ∧ x = nI c := by
  rcases pk_ix x (n := 16) (by decide) with h | h | h
  · exact Or.inl (Or.inl h)
  · exact Or.inl (Or.inr h)
  · exact Or.inr h
theorem ic_sn (x : Int32) (ht : t ≤ 4) : (x < 0 ∨ nI t ≤ x) ∨ ∃ c : Nat, c < t ∧ x = nI c := by
  rcases pk_ix x (n := t) (by omega) with h | h | h
  · exact Or.inl (Or.inl h)
  · exact Or.inl (Or.inr h)
  · exact Or.inr h
end
end
section
/-! the methods at their own names, with a general post -/
section
variable {f1 f2 : Int32} {s w sS sW S W mk sv bf : Nat → Int32}
theorem ic_X_fill {post : Int32 → SX → Prop} {l a D : Nat} {x : Int32} (hl : l ≤ 3) (hD : D < 16) (ha : a ≤ D)
    (h : post (ic_D (ic_w s w (l + 1)) (ic_w (ic_rg (16 * l + a) (16 * l + (D + 1)) (fun _ => 1) s) (ic_rg (16 * l + a) (16 * l + (D + 1)) (fun _ => x) w) (l + 1)))
      (nI (l + 1), f2, ic_rg (16 * l + a) (16 * l + (D + 1)) (fun _ => 1) s, ic_rg (16 * l + a) (16 * l + (D + 1)) (fun _ => x) w, sS, sW, ic_M (ic_w s w (l + 1)) (ic_w (ic_rg (16 * l + a) (16 * l + (D + 1)) (fun _ => 1) s) (ic_rg (16 * l + a) (16 * l + (D + 1)) (fun _ => x) w) (l + 1)) mk, sv)) :
    wpX_fill post (nI (l + 1), f2, s, w, sS, sW, mk, sv) (nI a) (nI D) x := by
  unfold wpX_fill
  refine ic_Xcy (by omega) (br_f ic_10 (ic_Xcy hD (br_f ic_10 (br_t (nI_le ha (by omega)) ?_))))
  exact ic_Xfill hl hD ha h
theorem ic_X_fill1 {post : Int32 → SX → Prop} {u : SX} {x y z : Int32} (hx : x < 0 ∨ (16 : Int32) ≤ x) (h : post (-1) u) : wpX_fill post u x y z := by
  unfold wpX_fill
  exact ic_Xcn hx (br_t rfl h)
theorem ic_X_fill2 {post : Int32 → SX → Prop} {u : SX} {a : Nat} {y z : Int32} (ha : a < 16) (hy : y < 0 ∨ (16 : Int32) ≤ y) (h : post (-1) u) : wpX_fill post u (nI a) y z := by
  unfold wpX_fill
  exact ic_Xcy ha (br_f ic_10 (ic_Xcn hy (br_t rfl h)))
theorem ic_X_fill3 {post : Int32 → SX → Prop} {u : SX} {a b : Nat} {z : Int32} (ha : a < 16) (hb : b < 16) (hab : b < a) (h : post (-1) u) : wpX_fill post u (nI a) (nI b) z := by
  unfold wpX_fill
  exact ic_Xcy ha (br_f ic_10 (ic_Xcy hb (br_f ic_10 (br_f (nI_ge hab (by omega)) h))))
theorem ic_Y_fill {post : Int32 → SY → Prop} {l a D : Nat} {x : Int32} (hl : l ≤ 3) (hD : D < 16) (ha : a ≤ D)
    (h : post (ic_D (ic_rg 0 16 (ic_w S W (l + 1)) bf) (ic_w (ic_rg (16 * l + a) (16 * l + (D + 1)) (fun _ => 1) S) (ic_rg (16 * l + a) (16 * l + (D + 1)) (fun _ => x) W) (l + 1)))
      (nI (l + 1), f2, ic_rg (16 * l + a) (16 * l + (D + 1)) (fun _ => 1) S, ic_rg (16 * l + a) (16 * l + (D + 1)) (fun _ => x) W, ic_M (ic_rg 0 16 (ic_w S W (l + 1)) bf) (ic_w (ic_rg (16 * l + a) (16 * l + (D + 1)) (fun _ => 1) S) (ic_rg (16 * l + a) (16 * l + (D + 1)) (fun _ => x) W) (l + 1)) mk, sv, ic_rg 0 16 (ic_w S W (l + 1)) bf)) :
    wpY_fill post (nI (l + 1), f2, S, W, mk, sv, bf) (nI a) (nI D) x := by
  unfold wpY_fill
  refine ic_Ycy (by omega) (br_f ic_10 (ic_Ycy hD (br_f ic_10 (br_t (nI_le ha (by omega)) (ic_Ynote (by omega) ?_)))))
  exact ic_Yfill hl hD ha h
theorem ic_Y_fill1 {post : Int32 → SY → Prop} {v : SY} {x y z : Int32} (hx : x < 0 ∨ (16 : Int32) ≤ x) (h : post (-1) v) : wpY_fill post v x y z := by
  unfold wpY_fill
  exact ic_Ycn hx (br_t rfl h)
theorem ic_Y_fill2 {post : Int32 → SY → Prop} {v : SY} {a : Nat} {y z : Int32} (ha : a < 16) (hy : y < 0 ∨ (16 : Int32) ≤ y) (h : post (-1) v) : wpY_fill post v (nI a) y z := by
  unfold wpY_fill
  exact ic_Ycy ha (br_f ic_10 (ic_Ycn hy (br_t rfl h)))
theorem ic_Y_fill3 {post : Int32 → SY → Prop} {v : SY} {a b : Nat} {z : Int32} (ha : a < 16) (hb : b < 16) (hab : b < a) (h : post (-1) v) : wpY_fill post v (nI a) (nI b) z := by
  unfold wpY_fill
  exact ic_Ycy ha (br_f ic_10 (ic_Ycy hb (br_f ic_10 (br_f (nI_ge hab (by omega)) h))))
theorem ic_X_write {post : Int32 → SX → Prop} {l c : Nat} {x : Int32} (hl : l ≤ 3) (hc : c < 16)
    (h : post (ic_D (ic_w s w (l + 1)) (ic_w (ic_rg (16 * l + c) (16 * l + (c + 1)) (fun _ => 1) s) (ic_rg (16 * l + c) (16 * l + (c + 1)) (fun _ => x) w) (l + 1)))
      (nI (l + 1), f2, ic_rg (16 * l + c) (16 * l + (c + 1)) (fun _ => 1) s, ic_rg (16 * l + c) (16 * l + (c + 1)) (fun _ => x) w, sS, sW, ic_M (ic_w s w (l + 1)) (ic_w (ic_rg (16 * l + c) (16 * l + (c + 1)) (fun _ => 1) s) (ic_rg (16 * l + c) (16 * l + (c + 1)) (fun _ => x) w) (l + 1)) mk, sv)) :
    wpX_write post (nI (l + 1), f2, s, w, sS, sW, mk, sv) (nI c) x := by
  unfold wpX_write
  exact ic_Xcy hc (br_f ic_10 (ic_Xput1 (p := fun _ => 1) (q := fun _ => x) hl hc rfl rfl (Or.inr rfl) h))
theorem ic_X_write1 {post : Int32 → SX → Prop} {u : SX} {x y : Int32} (hx : x < 0 ∨ (16 : Int32) ≤ x) (h : post (-1) u) : wpX_write post u x y := by
  unfold wpX_write
  exact ic_Xcn hx (br_t rfl h)
theorem ic_Y_write {post : Int32 → SY → Prop} {v : SY} {x y : Int32} (h : wpY_fill post v x x y) : wpY_write post v x y := by
  unfold wpY_write
  exact h
theorem ic_X_disc {post : Int32 → SX → Prop} {l c : Nat} (hl : l ≤ 3) (hc : c < 16)
    (h : post (ic_b (fun k => s (16 * l + k)) c)
      (nI (l + 1), f2, ic_rg (16 * l + c) (16 * l + (c + 1)) (fun _ => 0) s, ic_rg (16 * l + c) (16 * l + (c + 1)) (fun _ => 0) w, sS, sW, ic_M (ic_w s w (l + 1)) (ic_w (ic_rg (16 * l + c) (16 * l + (c + 1)) (fun _ => 0) s) (ic_rg (16 * l + c) (16 * l + (c + 1)) (fun _ => 0) w) (l + 1)) mk, sv)) :
    wpX_discard post (nI (l + 1), f2, s, w, sS, sW, mk, sv) (nI c) := by
  unfold wpX_discard
  exact ic_Xcy hc (br_f ic_10 (ic_Xclr1 hl hc h))
theorem ic_X_disc1 {post : Int32 → SX → Prop} {u : SX} {x : Int32} (hx : x < 0 ∨ (16 : Int32) ≤ x) (h : post (-1) u) : wpX_discard post u x := by
  unfold wpX_discard
  exact ic_Xcn hx (br_t rfl h)
theorem ic_Y_disc {post : Int32 → SY → Prop} {l c : Nat} (hl : l ≤ 3) (hc : c < 16)
    (h : post (ic_b (fun k => S (16 * l + k)) c)
      (nI (l + 1), f2, ic_rg (16 * l + c) (16 * l + (c + 1)) (fun _ => 0) S, W, ic_M (ic_rg 0 16 (ic_w S W (l + 1)) bf) (ic_w (ic_rg (16 * l + c) (16 * l + (c + 1)) (fun _ => 0) S) W (l + 1)) mk, sv, ic_rg 0 16 (ic_w S W (l + 1)) bf)) :
    wpY_discard post (nI (l + 1), f2, S, W, mk, sv, bf) (nI c) := by
  have hix : vp_in (16 * (nI (l + 1) - 1) + nI c) 128 := by
    rw [ic_iy1]
    exact vp_in_nI (by omega) (by decide)
  have e : upd S (16 * l + c) 0 = ic_rg (16 * l + c) (16 * l + (c + 1)) (fun _ => 0) S := by
    have g := ic_rg_st (lo := 16 * l + c) (n := 16 * l + c) (p := fun _ => 0) (g := S) (Nat.le_refl _) rfl
    rw [ic_rg_0] at g
    exact g
  unfold wpY_discard
  refine ic_Ycy hc (br_f ic_10 (ic_Ynote (by omega) ⟨hix, br_c (fun z => ?_) fun z => ?_⟩))
  · rw [ic_iy1, nI_clamp (by omega)] at z
    rw [ic_b0 (f := fun k => S (16 * l + k)) z] at h
    refine ⟨hix, fun s1 e1 => ?_⟩
    rw [ic_iy1, nI_clamp (by omega), ic_n0, e] at e1
    rw [e1]
    exact ic_Ychg (by omega) h
  · rw [ic_iy1, nI_clamp (by omega)] at z
    rw [ic_b1 (f := fun k => S (16 * l + k)) z] at h
    refine ⟨hix, fun s1 e1 => ?_⟩
    rw [ic_iy1, nI_clamp (by omega), ic_n0, e] at e1
    rw [e1]
    exact ic_Ychg (by omega) h
theorem ic_Y_disc1 {post : Int32 → SY → Prop} {v : SY} {x : Int32} (hx : x < 0 ∨ (16 : Int32) ≤ x) (h : post (-1) v) : wpY_discard post v x := by
  unfold wpY_discard
  exact ic_Ycn hx (br_t rfl h)
end
end
section
/-! what is owed -/
theorem i_up {k : Nat} {u : SX} {v : SY} (h : i_Rel k u v) : i_Rel (k + 4) u v := h
theorem i_vc0 : wpX_init (fun u => wpY_init (fun v => i_Rel 0 u v)) :=
  ic_fin (k := 0) (l := 0) (t := 0) (by omega) (by omega) ⟨fun _ => Or.inl rfl, fun _ => Or.inl rfl, fun _ => Or.inl rfl, fun _ _ => rfl, fun _ _ => ⟨rfl, fun _ => rfl⟩, fun _ _ => ⟨rfl, fun _ => rfl⟩⟩ rfl rfl
theorem i_vc_write {k : Nat} {u : SX} {v : SY} (I : i_Rel k u v) (hk : k + 4 ≤ 2048) (v1 : Int32) (v2 : Int32) : wpX_write (fun r u' => wpY_write (fun r' v' => r' = r ∧ i_Rel (k + 4) u' v') v v1 v2) u v1 v2 := by
  rcases ic_cl v1 with hx | ⟨c, hc, rfl⟩
  · exact ic_X_write1 hx (ic_Y_write (ic_Y_fill1 hx ⟨rfl, I⟩))
  · obtain ⟨l, t, iS, iW, sS, sW, mk, sv, S, W, bf, hl, ht, H, rfl, rfl⟩ := I
    have H' := ic_R_put (a := c) (b := c + 1) (p := fun _ => 1) (q := fun _ => v2) (p' := fun _ => 1) (q' := fun _ => v2) H hl (by omega) (fun _ => Or.inr rfl) fun _ _ _ => ⟨rfl, fun _ => rfl⟩
    exact ic_X_write hl hc (ic_Y_write (ic_Y_fill hl hc (Nat.le_refl c) ⟨ic_R_D H H', ic_fin hl ht H' (ic_R_M H H') rfl⟩))
theorem i_vc_fill {k : Nat} {u : SX} {v : SY} (I : i_Rel k u v) (hk : k + 4 ≤ 2048) (v1 : Int32) (v2 : Int32) (v3 : Int32) : wpX_fill (fun r u' => wpY_fill (fun r' v' => r' = r ∧ i_Rel (k + 4) u' v') v v1 v2 v3) u v1 v2 v3 := by
  rcases ic_cl v1 with hx | ⟨a, ha, rfl⟩
  · exact ic_X_fill1 hx (ic_Y_fill1 hx ⟨rfl, I⟩)
  · rcases ic_cl v2 with hy | ⟨b, hb, rfl⟩
    · exact ic_X_fill2 ha hy (ic_Y_fill2 ha hy ⟨rfl, I⟩)
    · by_cases hab : b < a
      · exact ic_X_fill3 ha hb hab (ic_Y_fill3 ha hb hab ⟨rfl, I⟩)
      · obtain ⟨l, t, iS, iW, sS, sW, mk, sv, S, W, bf, hl, ht, H, rfl, rfl⟩ := I
        have H' := ic_R_put (a := a) (b := b + 1) (p := fun _ => 1) (q := fun _ => v3) (p' := fun _ => 1) (q' := fun _ => v3) H hl (by omega) (fun _ => Or.inr rfl) fun _ _ _ => ⟨rfl, fun _ => rfl⟩
        exact ic_X_fill hl hb (by omega) (ic_Y_fill hl hb (by omega) ⟨ic_R_D H H', ic_fin hl ht H' (ic_R_M H H') rfl⟩)
theorem i_vc_discard {k : Nat} {u : SX} {v : SY} (I : i_Rel k u v) (hk : k + 4 ≤ 2048) (v1 : Int32) : wpX_discard (fun r u' => wpY_discard (fun r' v' => r' = r ∧ i_Rel (k + 4) u' v') v v1) u v1 := by
  rcases ic_cl v1 with hx | ⟨c, hc, rfl⟩
  · exact ic_X_disc1 hx (ic_Y_disc1 hx ⟨rfl, I⟩)
  · obtain ⟨l, t, iS, iW, sS, sW, mk, sv, S, W, bf, hl, ht, H, rfl, rfl⟩ := I
    have H' := ic_R_put (a := c) (b := c + 1) (p := fun _ => 0) (q := fun _ => 0) (p' := fun _ => 0) (q' := W) H hl (by omega) (fun _ => Or.inl rfl) fun _ _ _ => ⟨rfl, fun z => absurd rfl z⟩
    rw [ic_rg_nop (p := W) (g := W) fun _ _ _ => rfl] at H'
    exact ic_X_disc hl hc (ic_Y_disc hl hc ⟨ic_b_cong (f := fun k => S (16 * l + k)) (g := fun k => iS (16 * l + k)) (H.2.2.2.2.1 (16 * l + c) (by omega)).1.symm, ic_fin hl ht H' (ic_R_M H H') rfl⟩)
theorem i_vc_read {k : Nat} {u : SX} {v : SY} (I : i_Rel k u v) (hk : k + 4 ≤ 2048) (v1 : Int32) : wpX_read (fun r => wpY_read (fun r' => r' = r ∧ i_Rel (k + 4) u v) v v1) u v1 := by
  have I' := I
  obtain ⟨l, t, iS, iW, sS, sW, mk, sv, S, W, bf, hl, ht, H, rfl, rfl⟩ := I
  unfold wpX_read wpY_read
  rcases ic_cl v1 with hx | ⟨c, hc, rfl⟩
  · exact ic_Xcn hx (br_t rfl (ic_Ycn hx (br_t rfl ⟨rfl, I'⟩)))
  · exact ic_Xcy hc (br_f ic_10 (ic_Xwp (by omega) hc (ic_Ycy hc (br_f ic_10 (ic_Ywp (by omega) hc ⟨(ic_R_w H (Nat.le_refl _) hc).symm, I'⟩)))))
theorem i_vc_said {k : Nat} {u : SX} {v : SY} (I : i_Rel k u v) (hk : k + 4 ≤ 2048) (v1 : Int32) : wpX_said (fun r => wpY_said (fun r' => r' = r ∧ i_Rel (k + 4) u v) v v1) u v1 := by
  have I' := I
  obtain ⟨l, t, iS, iW, sS, sW, mk, sv, S, W, bf, hl, ht, H, rfl, rfl⟩ := I
  unfold wpX_said wpY_said
  rcases ic_cl v1 with hx | ⟨c, hc, rfl⟩
  · exact ic_Xcn hx (br_t rfl (ic_Ycn hx (br_t rfl ⟨rfl, I'⟩)))
  · have hix : vp_in (nI (16 * l + c)) 64 := vp_in_nI (by omega) (by decide)
    have hiy : vp_in (16 * (nI (l + 1) - 1) + nI c) 128 := by
      rw [ic_iy1]
      exact vp_in_nI (by omega) (by decide)
    have e := (H.2.2.2.2.1 (16 * l + c) (by omega)).1
    refine ic_Xcy hc (br_f ic_10 (ic_Xtc ⟨hix, br_c (fun z => ?_) fun z => ?_⟩))
    · rw [nI_clamp (by omega), e] at z
      refine ic_Ycy hc (br_f ic_10 ⟨hiy, br_t ?_ ⟨rfl, I'⟩⟩)
      rw [ic_iy1, nI_clamp (by omega)]
      exact z
    · rw [nI_clamp (by omega), e] at z
      refine ic_Ycy hc (br_f ic_10 ⟨hiy, br_f ?_ ⟨rfl, I'⟩⟩)
      rw [ic_iy1, nI_clamp (by omega)]
      exact z
theorem i_vc_length {k : Nat} {u : SX} {v : SY} (I : i_Rel k u v) (hk : k + 4 ≤ 2048) : wpX_length (fun r => wpY_length (fun r' => r' = r ∧ i_Rel (k + 4) u v) v) u := by
  have I' := I
  obtain ⟨l, t, iS, iW, sS, sW, mk, sv, S, W, bf, hl, ht, H, rfl, rfl⟩ := I
  exact ⟨rfl, I'⟩
theorem i_vc_overlay {k : Nat} {u : SX} {v : SY} (I : i_Rel k u v) (hk : k + 4 ≤ 2048) : wpX_overlay (fun r u' => wpY_overlay (fun r' v' => r' = r ∧ i_Rel (k + 4) u' v') v) u := by
  have I' := I
  obtain ⟨l, t, iS, iW, sS, sW, mk, sv, S, W, bf, hl, ht, H, rfl, rfl⟩ := I
  by_cases h4 : l = 3
  · subst h4
    exact br_f (by decide) (br_t rfl ⟨rfl, I'⟩)
  · have hlt : nI (l + 1) < 4 := nI_lt (b := 4) (by omega) (by decide)
    have hne : ¬ nI (l + 1) = 4 := fun z => h4 (by have := (nI_eq (b := 4) (by omega) (by decide)).mp z; omega)
    by_cases h0 : t = 0
    · subst h0
      refine br_t hlt (br_t (nI_le (a := 0) (b := 0) (by omega) (by decide)) fun y ey => ?_)
      rw [ey, nI_1]
      exact br_f hne (br_t (nI_le (a := 0) (b := 0) (by omega) (by decide)) (ic_Yover (by omega) ⟨rfl, ic_fin (by omega) ht (ic_R_over H (by omega)) rfl rfl⟩))
    · have hn : ¬ nI t ≤ 0 := nI_nle (by omega) (by omega)
      exact br_t hlt (br_f hn (br_f hne (br_f hn ⟨rfl, I'⟩)))
theorem i_vc_commit {k : Nat} {u : SX} {v : SY} (I : i_Rel k u v) (hk : k + 4 ≤ 2048) : wpX_commit (fun r u' => wpY_commit (fun r' v' => r' = r ∧ i_Rel (k + 4) u' v') v) u := by
  have I' := I
  obtain ⟨l, t, iS, iW, sS, sW, mk, sv, S, W, bf, hl, ht, H, rfl, rfl⟩ := I
  cases l with
  | zero => exact br_t (nI_le (a := 1) (b := 1) (by omega) (by decide)) (br_t rfl ⟨rfl, I'⟩)
  | succ m =>
    have h1 : ¬ nI (m + 1 + 1) ≤ 1 := nI_ge (a := 1) (by omega) (by omega)
    have h2 : ¬ nI (m + 1 + 1) = 1 := fun z => by have := (nI_eq (b := 1) (by omega) (by decide)).mp z; omega
    by_cases h0 : t = 0
    · subst h0
      have hz : nI 0 ≤ 0 := nI_le (a := 0) (b := 0) (by omega) (by decide)
      refine br_f h1 (br_t hz (ic_Xmrg (by omega) ?_))
      refine br_f h2 (br_t hz fun x ex => ?_)
      rw [ex, nI_pred]
      exact ic_Ycom (by omega) ⟨ic_R_said H, ic_fin (by omega) ht (ic_R_mrg H (by omega)) rfl rfl⟩
    · have hn : ¬ nI t ≤ 0 := nI_nle (by omega) (by omega)
      exact br_f h1 (br_f hn (br_f h2 (br_f hn ⟨rfl, I'⟩)))
theorem i_vc_abandon {k : Nat} {u : SX} {v : SY} (I : i_Rel k u v) (hk : k + 4 ≤ 2048) : wpX_abandon (fun r u' => wpY_abandon (fun r' v' => r' = r ∧ i_Rel (k + 4) u' v') v) u := by
  have I' := I
  obtain ⟨l, t, iS, iW, sS, sW, mk, sv, S, W, bf, hl, ht, H, rfl, rfl⟩ := I
  cases l with
  | zero => exact br_t (nI_le (a := 1) (b := 1) (by omega) (by decide)) (br_t rfl ⟨rfl, I'⟩)
  | succ m =>
    have h1 : ¬ nI (m + 1 + 1) ≤ 1 := nI_ge (a := 1) (by omega) (by omega)
    have h2 : ¬ nI (m + 1 + 1) = 1 := fun z => by have := (nI_eq (b := 1) (by omega) (by decide)).mp z; omega
    by_cases h0 : t = 0
    · subst h0
      have hz : nI 0 ≤ 0 := nI_le (a := 0) (b := 0) (by omega) (by decide)
      refine br_f h1 (br_t hz (ic_Xaban (by omega) ?_))
      refine br_f h2 (br_t hz (ic_Ynote (by omega) ?_))
      intro x ex
      rw [ex, nI_pred]
      refine ic_Ychg (by omega) (ic_Ycs rfl (by omega) ⟨ic_R_said H, ic_fin (by omega) ht (ic_R_aban H) ?_ rfl⟩)
      exact ic_M_cong fun k hk => ⟨(ic_rg_in (by omega) hk).trans (ic_R_w H (Nat.le_refl _) hk).symm, (ic_R_w H (by omega) hk).symm.trans (ic_w_aban hk).symm⟩
    · have hn : ¬ nI t ≤ 0 := nI_nle (by omega) (by omega)
      exact br_f h1 (br_f hn (br_f h2 (br_f hn ⟨rfl, I'⟩)))
theorem i_vc_pull {k : Nat} {u : SX} {v : SY} (I : i_Rel k u v) (hk : k + 4 ≤ 2048) : wpX_pull (fun r u' => wpY_pull (fun r' v' => r' = r ∧ i_Rel (k + 4) u' v') v) u := by
  have I' := I
  obtain ⟨l, t, iS, iW, sS, sW, mk, sv, S, W, bf, hl, ht, H, rfl, rfl⟩ := I
  cases l with
  | zero => exact br_f (nI_nlt (a := 1) (b := 1) (by omega) (by decide)) (br_t rfl ⟨rfl, I'⟩)
  | succ m =>
    have h1 : 1 < nI (m + 1 + 1) := nI_lt (a := 1) (by omega) (by omega)
    have h2 : ¬ nI (m + 1 + 1) = 1 := fun z => by have := (nI_eq (b := 1) (by omega) (by decide)).mp z; omega
    refine br_t h1 (ic_Xmrg (by omega) ?_)
    refine br_f h2 fun x ex => ?_
    rw [ex, nI_pred]
    exact ic_Ypull (by omega) ⟨rfl, ic_fin (by omega) ht (ic_R_mrg H (by omega)) rfl rfl⟩
theorem i_vc_snapshot {k : Nat} {u : SX} {v : SY} (I : i_Rel k u v) (hk : k + 4 ≤ 2048) : wpX_snapshot (fun r u' => wpY_snapshot (fun r' v' => r' = r ∧ i_Rel (k + 4) u' v') v) u := by
  have I' := I
  obtain ⟨l, t, iS, iW, sS, sW, mk, sv, S, W, bf, hl, ht, H, rfl, rfl⟩ := I
  by_cases h4 : t = 4
  · subst h4
    exact br_f (by decide) (br_t rfl ⟨rfl, I'⟩)
  · have hlt : nI t < 4 := nI_lt (b := 4) (by omega) (by decide)
    have hne : ¬ nI t = 4 := fun z => h4 ((nI_eq (b := 4) (by omega) (by decide)).mp z)
    refine br_t hlt (ic_Xsnap hl (by omega) H.1 ?_)
    refine br_f hne (ic_Ycopy (x := l) (y := 4 + t) (nI_pred l) (nI_add 4 t) (by omega) (by omega) (by omega) H.2.2.1 ?_)
    intro x ex
    rw [ex, nI_1]
    exact ⟨nI_pred t, ic_fin hl (by omega) (ic_R_snap H hl) rfl rfl⟩
theorem i_vc_revert {k : Nat} {u : SX} {v : SY} (I : i_Rel k u v) (hk : k + 4 ≤ 2048) (v1 : Int32) : wpX_revert (fun r u' => wpY_revert (fun r' v' => r' = r ∧ i_Rel (k + 4) u' v') v v1) u v1 := by
  have I' := I
  obtain ⟨l, t, iS, iW, sS, sW, mk, sv, S, W, bf, hl, ht, H, rfl, rfl⟩ := I
  unfold wpX_revert wpY_revert
  rcases ic_sn v1 ht with hx | ⟨r, hr, rfl⟩
  · exact ic_Xsn hx (br_t rfl (ic_Ysn hx (br_t rfl ⟨rfl, I'⟩)))
  · have H' := ic_R_put (a := 0) (b := 16) (p := fun j => sS (j - 16 * l + 16 * r)) (q := fun j => sW (j - 16 * l + 16 * r)) (p' := fun j => S (j - 16 * l + 16 * (4 + r))) (q' := fun j => W (j - 16 * l + 16 * (4 + r))) H hl (by omega) (fun j => H.2.1 _) fun j h1 h2 => by
      have g := H.2.2.2.2.2 (j - 16 * l + 16 * r) (by omega)
      rw [show 64 + (j - 16 * l + 16 * r) = j - 16 * l + 16 * (4 + r) by omega] at g
      exact g
    refine ic_Xsy hr ht (br_f ic_10 (ic_Xrev hl (by omega) H.2.1 ?_))
    refine ic_Ysy hr ht (br_f ic_10 (ic_Ynote (by omega) ?_))
    refine ic_Ycopy (x := 4 + r) (y := l) (nI_add 4 r) (nI_pred l) (by omega) (by omega) (by omega) H.2.2.1 ?_
    exact ic_Ychg (by omega) ⟨ic_R_D H H', ic_fin hl ht H' (ic_R_M H H') rfl⟩
theorem i_vc_forget {k : Nat} {u : SX} {v : SY} (I : i_Rel k u v) (hk : k + 4 ≤ 2048) (v1 : Int32) : wpX_forget (fun r u' => wpY_forget (fun r' v' => r' = r ∧ i_Rel (k + 4) u' v') v v1) u v1 := by
  have I' := I
  obtain ⟨l, t, iS, iW, sS, sW, mk, sv, S, W, bf, hl, ht, H, rfl, rfl⟩ := I
  unfold wpX_forget wpY_forget
  rcases ic_sn v1 ht with hx | ⟨r, hr, rfl⟩
  · exact ic_Xsn hx (br_t rfl (ic_Ysn hx (br_t rfl ⟨rfl, I'⟩)))
  · cases t with
    | zero => exact absurd hr (Nat.not_lt_zero r)
    | succ t =>
      refine ic_Xsy hr ht (br_f ic_10 ?_)
      intro x ex y ey
      have ey' : y = nI (16 * r) := ey.trans ((pk_mul r 16).trans (congrArg nI (Nat.mul_comm r 16)))
      rw [ex, ey', nI_pred]
      refine ic_Xforg (by omega) (by omega) H.2.1 ?_
      refine ic_Ysy hr ht (br_f ic_10 (ic_Yforg (by omega) (by omega) H.2.2.1 ⟨rfl, ic_fin hl (by omega) (ic_R_forg H hl) rfl rfl⟩))
theorem i_vc_snapshots {k : Nat} {u : SX} {v : SY} (I : i_Rel k u v) (hk : k + 4 ≤ 2048) : wpX_snapshots (fun r => wpY_snapshots (fun r' => r' = r ∧ i_Rel (k + 4) u v) v) u := by
  have I' := I
  obtain ⟨l, t, iS, iW, sS, sW, mk, sv, S, W, bf, hl, ht, H, rfl, rfl⟩ := I
  exact ⟨rfl, I'⟩
theorem i_vc_peek {k : Nat} {u : SX} {v : SY} (I : i_Rel k u v) (hk : k + 4 ≤ 2048) (v1 : Int32) (v2 : Int32) : wpX_peek (fun r => wpY_peek (fun r' => r' = r ∧ i_Rel (k + 4) u v) v v1 v2) u v1 v2 := by
  have I' := I
  obtain ⟨l, t, iS, iW, sS, sW, mk, sv, S, W, bf, hl, ht, H, rfl, rfl⟩ := I
  unfold wpX_peek wpY_peek
  rcases ic_sn v1 ht with hx | ⟨r, hr, rfl⟩
  · exact ic_Xsn hx (br_t rfl (ic_Ysn hx (br_t rfl ⟨rfl, I'⟩)))
  · rcases ic_cl v2 with hy | ⟨c, hc, rfl⟩
    · exact ic_Xsy hr ht (br_f ic_10 (ic_Xcn hy (br_t rfl (ic_Ysy hr ht (br_f ic_10 (ic_Ycn hy (br_t rfl ⟨rfl, I'⟩)))))))
    · have hix : vp_in (nI (16 * r + c)) 64 := vp_in_nI (by omega) (by decide)
      have ei : 16 * (4 + nI r) + nI c = nI (64 + (16 * r + c)) := by
        show 16 * (nI 4 + nI r) + nI c = _
        rw [nI_add, ic_iy]
        exact congrArg nI (by omega)
      have hiy : vp_in (16 * (4 + nI r) + nI c) 128 := by
        rw [ei]
        exact vp_in_nI (by omega) (by decide)
      obtain ⟨e1, e2⟩ := H.2.2.2.2.2 (16 * r + c) (by omega)
      refine ic_Xsy hr ht (br_f ic_10 (ic_Xcy hc (br_f ic_10 ?_)))
      intro x ex
      rw [ic_ix] at ex
      subst ex
      refine ⟨hix, br_c (fun z => ?_) fun z => ⟨hix, ?_⟩⟩
      · rw [nI_clamp (by omega)] at z
        rw [nI_pred]
        refine ic_Xwp (by omega) hc (ic_Ysy hr ht (br_f ic_10 (ic_Ycy hc (br_f ic_10 ⟨hiy, br_t ?_ ?_⟩))))
        · rw [ei, nI_clamp (by omega), ← e1]
          exact z
        · rw [nI_pred]
          exact ic_Ywp (by omega) hc ⟨(ic_R_w H (by omega) hc).symm, I'⟩
      · rw [nI_clamp (by omega)] at z
        refine ic_Ysy hr ht (br_f ic_10 (ic_Ycy hc (br_f ic_10 ⟨hiy, br_f ?_ ⟨hiy, ?_, I'⟩⟩)))
        · rw [ei, nI_clamp (by omega), ← e1]
          exact z
        · rw [ei, nI_clamp (by omega), nI_clamp (by omega)]
          exact (e2 z).symm
theorem i_vc_marked {k : Nat} {u : SX} {v : SY} (I : i_Rel k u v) (hk : k + 4 ≤ 2048) : wpX_marked (fun r => wpY_marked (fun r' => r' = r ∧ i_Rel (k + 4) u v) v) u := by
  have I' := I
  obtain ⟨l, t, iS, iW, sS, sW, mk, sv, S, W, bf, hl, ht, H, rfl, rfl⟩ := I
  exact ic_Xmark (ic_Ymark ⟨rfl, I'⟩)
theorem i_vc_backup {k : Nat} {u : SX} {v : SY} (I : i_Rel k u v) (hk : k + 4 ≤ 2048) : wpX_backup (fun r u' => wpY_backup (fun r' v' => r' = r ∧ i_Rel (k + 4) u' v') v) u := by
  obtain ⟨l, t, iS, iW, sS, sW, mk, sv, S, W, bf, hl, ht, H, rfl, rfl⟩ := I
  refine ic_Xback (by omega) ?_
  unfold wpY_backup
  refine ic_Ymark (ic_Yback (by omega) ⟨rfl, ic_fin hl ht H rfl ?_⟩)
  refine ic_rg_cong fun k _ hk => ?_
  by_cases z : mk k = 0
  · rw [ic_sv0 z, ic_sv0 z]
  · rw [ic_sv1 z, ic_sv1 z]
    exact (ic_R_w H (Nat.le_refl _) hk).symm
theorem i_vc_saved {k : Nat} {u : SX} {v : SY} (I : i_Rel k u v) (hk : k + 4 ≤ 2048) (v1 : Int32) : wpX_saved (fun r => wpY_saved (fun r' => r' = r ∧ i_Rel (k + 4) u v) v v1) u v1 := by
  have I' := I
  obtain ⟨l, t, iS, iW, sS, sW, mk, sv, S, W, bf, hl, ht, H, rfl, rfl⟩ := I
  unfold wpX_saved wpY_saved
  rcases ic_cl v1 with hx | ⟨c, hc, rfl⟩
  · exact ic_Xcn hx (br_t rfl (ic_Ycn hx (br_t rfl ⟨rfl, I'⟩)))
  · have hi : vp_in (nI c) 16 := vp_in_nI hc (by decide)
    exact ic_Xcy hc (br_f ic_10 ⟨hi, ic_Ycy hc (br_f ic_10 ⟨hi, rfl, I'⟩)⟩)
theorem i_vc_behind {k : Nat} {u : SX} {v : SY} (I : i_Rel k u v) (hk : k + 4 ≤ 2048) : wpX_behind (fun r => wpY_behind (fun r' => r' = r ∧ i_Rel (k + 4) u v) v) u := by
  have I' := I
  obtain ⟨l, t, iS, iW, sS, sW, mk, sv, S, W, bf, hl, ht, H, rfl, rfl⟩ := I
  refine ic_Xbeh (by omega) (ic_Ybeh (by omega) ⟨?_, I'⟩)
  rw [ic_D_comm]
  exact ic_D_cong fun k hk => ⟨(ic_R_w H (Nat.le_refl _) hk).symm, rfl⟩
theorem i_vc_check {k : Nat} {u : SX} {v : SY} (I : i_Rel k u v) (hk : k + 4 ≤ 2048) : wpX_check (fun r => wpY_check (fun r' => r' = r ∧ i_Rel (k + 4) u v) v) u := by
  have I' := I
  obtain ⟨l, t, iS, iW, sS, sW, mk, sv, S, W, bf, hl, ht, H, rfl, rfl⟩ := I
  exact ⟨rfl, I'⟩
theorem i_vc_digest {k : Nat} {u : SX} {v : SY} (I : i_Rel k u v) (hk : k + 4 ≤ 2048) : wpX_digest (fun r => wpY_digest (fun r' => r' = r ∧ i_Rel (k + 4) u v) v) u := by
  have I' := I
  obtain ⟨l, t, iS, iW, sS, sW, mk, sv, S, W, bf, hl, ht, H, rfl, rfl⟩ := I
  refine ic_Xdig (by omega) (ic_Ydig (by omega) ⟨?_, I'⟩)
  exact ic_s_cong 16 fun k hk => congrArg (fun z => (nI k + 1) * z) (ic_R_w H (Nat.le_refl _) hk).symm
end
