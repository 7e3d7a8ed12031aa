/-! the component's walks, each with a general post -/
section
variable {f1 f2 : Int32} {s w sS sW mk sv : Nat → Int32}
theorem ic_Xw {post : Int32 → Prop} {c : Nat} (hc : c < 16) : ∀ L, L ≤ 4 → post (ic_w s w L c) → wX_wordInLowest_4 post (nI c) f1 f2 s w sS sW mk sv (L + 1) (nI L - 1) := by
  intro L
  induction L with
  | zero => intro _ hp; exact br_t (by decide) hp
  | succ L ih =>
    intro hL hp
    rw [nI_pred]
    refine br_f (nI_pos (by omega)) fun x ex => ?_
    rw [ic_ix] at ex
    subst ex
    have hi : vp_in (nI (16 * L + c)) 64 := vp_in_nI (by omega) (by decide)
    refine ⟨hi, br_c (fun z y ey => ?_) fun z => ⟨hi, ?_⟩⟩
    · rw [nI_clamp (by omega)] at z
      rw [ey, ic_m1]
      rw [ic_w0 z] at hp
      exact ih (by omega) hp
    · rw [nI_clamp (by omega)] at z
      rw [nI_clamp (by omega)]
      rw [ic_w1 z] at hp
      exact hp
theorem ic_Xwp {post : Int32 → Prop} {c L : Nat} (hL : L ≤ 4) (hc : c < 16) (h : post (ic_w s w L c)) : wpX_wordInLowest post (f1, f2, s, w, sS, sW, mk, sv) (nI L) (nI c) := by
  intro x ex
  refine ⟨L + 1, ?_⟩
  rw [ex]
  exact ic_Xw hc L hL h
theorem ic_Xtc {post : Int32 → Prop} {c l : Nat} (h : post (nI (16 * l + c))) : wpX_topCell post (nI (l + 1), f2, s, w, sS, sW, mk, sv) (nI c) := by
  unfold wpX_topCell
  dsimp only
  rw [ic_ix1]
  exact h
theorem ic_Xcy {post : Int32 → Prop} {c : Nat} (hc : c < 16) (h : post 1) : wpX_isCluster post (nI c) :=
  br_f (nI_pos (by omega)) (br_f (ic_16f hc) h)
theorem ic_Xcn {post : Int32 → Prop} {x : Int32} (hx : x < 0 ∨ (16 : Int32) ≤ x) (h : post 0) : wpX_isCluster post x :=
  br_c (fun _ => h) fun h0 => br_t (hx.resolve_left h0) h
theorem ic_Xsy {post : Int32 → Prop} {c t : Nat} (hc : c < t) (ht : t ≤ 4) (h : post 1) : wpX_isSnapshot post (f1, nI t, s, w, sS, sW, mk, sv) (nI c) :=
  br_f (nI_pos (by omega)) (br_f (nI_ge hc (by omega)) h)
theorem ic_Xsn {post : Int32 → Prop} {x : Int32} {t : Nat} (hx : x < 0 ∨ nI t ≤ x) (h : post 0) : wpX_isSnapshot post (f1, nI t, s, w, sS, sW, mk, sv) x :=
  br_c (fun _ => h) fun h0 => br_t (hx.resolve_left h0) h
/-- one put at i, within a run of puts at a .. b -/
theorem ic_Xput {post : Int32 → SX → Prop} {l a i b : Nat} {p q : Nat → Int32} {P Q : Int32} (hl : l ≤ 3) (ha : a ≤ i) (hi : i < b) (hb : b ≤ 16) (hP : P = p (16 * l + i)) (hQ : Q = q (16 * l + i)) (h01 : P = 0 ∨ P = 1)
    (h : post (ic_d (ic_w s w (l + 1)) (ic_w (ic_rg (16 * l + a) (16 * l + b) p s) (ic_rg (16 * l + a) (16 * l + b) q w) (l + 1)) i)
      (nI (l + 1), f2, ic_rg (16 * l + a) (16 * l + (i + 1)) p s, ic_rg (16 * l + a) (16 * l + (i + 1)) q w, sS, sW, ic_rg 0 (i + 1) (ic_m (ic_w s w (l + 1)) (ic_w (ic_rg (16 * l + a) (16 * l + b) p s) (ic_rg (16 * l + a) (16 * l + b) q w) (l + 1)) mk) mk, sv)) :
    wpX_putInTop post (nI (l + 1), f2, ic_rg (16 * l + a) (16 * l + i) p s, ic_rg (16 * l + a) (16 * l + i) q w, sS, sW, ic_rg 0 i (ic_m (ic_w s w (l + 1)) (ic_w (ic_rg (16 * l + a) (16 * l + b) p s) (ic_rg (16 * l + a) (16 * l + b) q w) (l + 1)) mk) mk, sv) (nI i) P Q := by
  have hin : vp_in (nI (16 * l + i)) 64 := vp_in_nI (by omega) (by decide)
  refine ic_Xwp (by omega) (by omega) ?_
  refine ic_Xtc ?_
  refine ⟨hin, fun s' es => ⟨hin, fun w' ew => ?_⟩⟩
  have es' : s' = ic_rg (16 * l + a) (16 * l + (i + 1)) p s := es.trans (by rw [nI_clamp (by omega), ic_n h01]; exact ic_rg_st (by omega) hP)
  have ew' : w' = ic_rg (16 * l + a) (16 * l + (i + 1)) q w := ew.trans (by rw [nI_clamp (by omega)]; exact ic_rg_st (by omega) hQ)
  clear es ew
  subst es' ew'
  refine ic_Xwp (by omega) (by omega) ?_
  refine br_c (fun e => ?_) fun e => ⟨vp_in_nI (by omega) (by decide), fun m' em => ?_⟩
  · have e' := (ic_Vb (l := l) (a := a) (p := p) (q := q) (s := s) (w := w) (show i < 16 by omega)).symm.trans (e.trans (ic_Va hi hb))
    rw [ic_d0 e', ← ic_rg_k (ic_m0 e')] at h
    exact h
  · have e' : ¬ ic_w s w (l + 1) i = ic_w (ic_rg (16 * l + a) (16 * l + b) p s) (ic_rg (16 * l + a) (16 * l + b) q w) (l + 1) i := fun z => e ((ic_Vb (show i < 16 by omega)).trans (z.trans (ic_Va hi hb).symm))
    rw [nI_clamp (by omega), ic_n1, ic_rg_st (by omega) (ic_m1' e').symm] at em
    rw [ic_d1 e', ← em] at h
    exact h
/-- one put alone -/
theorem ic_Xput1 {post : Int32 → SX → Prop} {l c : Nat} {p q : Nat → Int32} {P Q : Int32} (hl : l ≤ 3) (hc : c < 16) (hP : P = p (16 * l + c)) (hQ : Q = q (16 * l + c)) (h01 : P = 0 ∨ P = 1)
    (h : post (ic_D (ic_w s w (l + 1)) (ic_w (ic_rg (16 * l + c) (16 * l + (c + 1)) p s) (ic_rg (16 * l + c) (16 * l + (c + 1)) q w) (l + 1)))
      (nI (l + 1), f2, ic_rg (16 * l + c) (16 * l + (c + 1)) p s, ic_rg (16 * l + c) (16 * l + (c + 1)) q w, sS, sW, ic_M (ic_w s w (l + 1)) (ic_w (ic_rg (16 * l + c) (16 * l + (c + 1)) p s) (ic_rg (16 * l + c) (16 * l + (c + 1)) q w) (l + 1)) mk, sv)) :
    wpX_putInTop post (nI (l + 1), f2, s, w, sS, sW, mk, sv) (nI c) P Q := by
  have hV : ∀ k, k < 16 → k < c ∨ c + 1 ≤ k → ic_w s w (l + 1) k = ic_w (ic_rg (16 * l + c) (16 * l + (c + 1)) p s) (ic_rg (16 * l + c) (16 * l + (c + 1)) q w) (l + 1) k := fun k h1 h2 => ic_Vo h1 h2
  have g := ic_Xput (post := post) (f2 := f2) (s := s) (w := w) (sS := sS) (sW := sW) (mk := mk) (sv := sv) (l := l) (a := c) (i := c) (b := c + 1) (p := p) (q := q) (P := P) (Q := Q) hl (by omega) (by omega) (by omega) hP hQ h01
  rw [ic_e4 (by omega) hV, ic_rg_0, ic_rg_0, ic_e3 (by omega) hV] at g
  refine g ?_
  have e : ic_d (ic_w s w (l + 1)) (ic_w (ic_rg (16 * l + c) (16 * l + (c + 1)) p s) (ic_rg (16 * l + c) (16 * l + (c + 1)) q w) (l + 1)) c = ic_D (ic_w s w (l + 1)) (ic_w (ic_rg (16 * l + c) (16 * l + (c + 1)) p s) (ic_rg (16 * l + c) (16 * l + (c + 1)) q w) (l + 1)) := by
    rw [← ic_e2 (by omega) hV]
    show _ = ic_s _ c + _
    rw [ic_e1 (by omega) hV, Int32.zero_add]
  rw [e]
  exact h
theorem ic_Xfill0 {post : Int32 → SX → Prop} {l a D : Nat} {x : Int32} (hl : l ≤ 3) (hD : D < 16)
    (h : post (ic_s (ic_d (ic_w s w (l + 1)) (ic_w (ic_rg (16 * l + a) (16 * l + (D + 1)) (fun _ => 1) s) (ic_rg (16 * l + a) (16 * l + (D + 1)) (fun _ => x) w) (l + 1))) (D + 1))
      (nI (l + 1), f2, ic_rg (16 * l + a) (16 * l + (D + 1)) (fun _ => 1) s, ic_rg (16 * l + a) (16 * l + (D + 1)) (fun _ => x) w, sS, sW, ic_rg 0 (D + 1) (ic_m (ic_w s w (l + 1)) (ic_w (ic_rg (16 * l + a) (16 * l + (D + 1)) (fun _ => 1) s) (ic_rg (16 * l + a) (16 * l + (D + 1)) (fun _ => x) w) (l + 1)) mk) mk, sv)) :
    ∀ d i, i + d = D + 1 → a ≤ i → wX_fill_27 post (nI D) x (d + 1) (ic_s (ic_d (ic_w s w (l + 1)) (ic_w (ic_rg (16 * l + a) (16 * l + (D + 1)) (fun _ => 1) s) (ic_rg (16 * l + a) (16 * l + (D + 1)) (fun _ => x) w) (l + 1))) i) (nI i)
      (nI (l + 1)) f2 (ic_rg (16 * l + a) (16 * l + i) (fun _ => 1) s) (ic_rg (16 * l + a) (16 * l + i) (fun _ => x) w) sS sW (ic_rg 0 i (ic_m (ic_w s w (l + 1)) (ic_w (ic_rg (16 * l + a) (16 * l + (D + 1)) (fun _ => 1) s) (ic_rg (16 * l + a) (16 * l + (D + 1)) (fun _ => x) w) (l + 1)) mk) mk) sv := by
  intro d
  induction d with
  | zero =>
    intro i hi ha
    obtain rfl : i = D + 1 := by omega
    exact br_t (nI_lt (by omega) (by omega)) h
  | succ d ih =>
    intro i hi ha
    refine br_f (nI_nlt (by omega) (by omega)) (ic_Xput hl ha (by omega) (by omega) rfl rfl (Or.inr rfl) ?_)
    intro y ey z ez
    rw [ey, ez, nI_1]
    exact ih (i + 1) (by omega) (by omega)
theorem ic_Xfill {post : Int32 → SX → Prop} {l a D : Nat} {x : Int32} (hl : l ≤ 3) (hD : D < 16) (ha : a ≤ D)
    (h : post (ic_D (ic_w s w (l + 1)) (ic_w (ic_rg (16 * l + a) (16 * l + (D + 1)) (fun _ => 1) s) (ic_rg (16 * l + a) (16 * l + (D + 1)) (fun _ => x) w) (l + 1)))
      (nI (l + 1), f2, ic_rg (16 * l + a) (16 * l + (D + 1)) (fun _ => 1) s, ic_rg (16 * l + a) (16 * l + (D + 1)) (fun _ => x) w, sS, sW, ic_M (ic_w s w (l + 1)) (ic_w (ic_rg (16 * l + a) (16 * l + (D + 1)) (fun _ => 1) s) (ic_rg (16 * l + a) (16 * l + (D + 1)) (fun _ => x) w) (l + 1)) mk, sv)) :
    ∃ n, wX_fill_27 post (nI D) x n 0 (nI a) (nI (l + 1)) f2 s w sS sW mk sv := by
  have hV : ∀ k, k < 16 → k < a ∨ D + 1 ≤ k → ic_w s w (l + 1) k = ic_w (ic_rg (16 * l + a) (16 * l + (D + 1)) (fun _ => 1) s) (ic_rg (16 * l + a) (16 * l + (D + 1)) (fun _ => x) w) (l + 1) k := fun k h1 h2 => ic_Vo h1 h2
  rw [← ic_e2 (by omega) hV, ← ic_e4 (by omega) hV] at h
  have g := ic_Xfill0 hl hD h (D + 1 - a) a (by omega) (by omega)
  rw [ic_e1 (by omega) hV, ic_rg_0, ic_rg_0, ic_e3 (by omega) hV] at g
  exact ⟨_, g⟩
theorem ic_Xrev0 {post : Int32 → SX → Prop} {l r : Nat} (hl : l ≤ 3) (hr : r ≤ 3) (h01 : ∀ j, sS j = 0 ∨ sS j = 1)
    (h : post (ic_D (ic_w s w (l + 1)) (ic_w (ic_rg (16 * l + 0) (16 * l + 16) (fun j => sS (j - 16 * l + 16 * r)) s) (ic_rg (16 * l + 0) (16 * l + 16) (fun j => sW (j - 16 * l + 16 * r)) w) (l + 1)))
      (nI (l + 1), f2, ic_rg (16 * l + 0) (16 * l + 16) (fun j => sS (j - 16 * l + 16 * r)) s, ic_rg (16 * l + 0) (16 * l + 16) (fun j => sW (j - 16 * l + 16 * r)) w, sS, sW, ic_M (ic_w s w (l + 1)) (ic_w (ic_rg (16 * l + 0) (16 * l + 16) (fun j => sS (j - 16 * l + 16 * r)) s) (ic_rg (16 * l + 0) (16 * l + 16) (fun j => sW (j - 16 * l + 16 * r)) w) (l + 1)) mk, sv)) :
    ∀ d i, i + d = 16 → wX_revert_15 post (nI r) (d + 1) (ic_s (ic_d (ic_w s w (l + 1)) (ic_w (ic_rg (16 * l + 0) (16 * l + 16) (fun j => sS (j - 16 * l + 16 * r)) s) (ic_rg (16 * l + 0) (16 * l + 16) (fun j => sW (j - 16 * l + 16 * r)) w) (l + 1))) i) (nI i)
      (nI (l + 1)) f2 (ic_rg (16 * l + 0) (16 * l + i) (fun j => sS (j - 16 * l + 16 * r)) s) (ic_rg (16 * l + 0) (16 * l + i) (fun j => sW (j - 16 * l + 16 * r)) w) sS sW (ic_rg 0 i (ic_m (ic_w s w (l + 1)) (ic_w (ic_rg (16 * l + 0) (16 * l + 16) (fun j => sS (j - 16 * l + 16 * r)) s) (ic_rg (16 * l + 0) (16 * l + 16) (fun j => sW (j - 16 * l + 16 * r)) w) (l + 1)) mk) mk) sv := by
  intro d
  induction d with
  | zero =>
    intro i hi
    obtain rfl : i = 16 := by omega
    exact br_t ic_16t h
  | succ d ih =>
    intro i hi
    refine br_f (ic_16f (by omega)) fun x ex => ?_
    rw [ic_ix] at ex
    subst ex
    have hin : vp_in (nI (16 * r + i)) 64 := vp_in_nI (by omega) (by decide)
    refine ⟨hin, hin, ic_Xput hl (by omega) (by omega) (by omega) ?_ ?_ (h01 _) ?_⟩
    · rw [nI_clamp (by omega)]
      exact congrArg sS (by omega)
    · rw [nI_clamp (by omega)]
      exact congrArg sW (by omega)
    · intro y ey z ez
      rw [ey, ez, nI_1]
      exact ih (i + 1) (by omega)
theorem ic_Xrev {post : Int32 → SX → Prop} {l r : Nat} (hl : l ≤ 3) (hr : r ≤ 3) (h01 : ∀ j, sS j = 0 ∨ sS j = 1)
    (h : post (ic_D (ic_w s w (l + 1)) (ic_w (ic_rg (16 * l + 0) (16 * l + 16) (fun j => sS (j - 16 * l + 16 * r)) s) (ic_rg (16 * l + 0) (16 * l + 16) (fun j => sW (j - 16 * l + 16 * r)) w) (l + 1)))
      (nI (l + 1), f2, ic_rg (16 * l + 0) (16 * l + 16) (fun j => sS (j - 16 * l + 16 * r)) s, ic_rg (16 * l + 0) (16 * l + 16) (fun j => sW (j - 16 * l + 16 * r)) w, sS, sW, ic_M (ic_w s w (l + 1)) (ic_w (ic_rg (16 * l + 0) (16 * l + 16) (fun j => sS (j - 16 * l + 16 * r)) s) (ic_rg (16 * l + 0) (16 * l + 16) (fun j => sW (j - 16 * l + 16 * r)) w) (l + 1)) mk, sv)) :
    ∃ n, wX_revert_15 post (nI r) n 0 0 (nI (l + 1)) f2 s w sS sW mk sv := by
  have g := ic_Xrev0 hl hr h01 h 16 0 (by omega)
  rw [ic_rg_0, ic_rg_0, ic_rg_0] at g
  exact ⟨_, g⟩
/-- a word of the top is cleared, within a run a .. b -/
theorem ic_Xclr {post : Int32 → SX → Prop} {l a i b : Nat} (hl : l ≤ 3) (ha : a ≤ i) (hi : i < b) (hb : b ≤ 16)
    (h : post (ic_b (fun k => s (16 * l + k)) i)
      (nI (l + 1), f2, ic_rg (16 * l + a) (16 * l + (i + 1)) (fun _ => 0) s, ic_rg (16 * l + a) (16 * l + (i + 1)) (fun _ => 0) w, sS, sW, ic_rg 0 (i + 1) (ic_m (ic_w s w (l + 1)) (ic_w (ic_rg (16 * l + a) (16 * l + b) (fun _ => 0) s) (ic_rg (16 * l + a) (16 * l + b) (fun _ => 0) w) (l + 1)) mk) mk, sv)) :
    wpX_clearInTop post (nI (l + 1), f2, ic_rg (16 * l + a) (16 * l + i) (fun _ => 0) s, ic_rg (16 * l + a) (16 * l + i) (fun _ => 0) w, sS, sW, ic_rg 0 i (ic_m (ic_w s w (l + 1)) (ic_w (ic_rg (16 * l + a) (16 * l + b) (fun _ => 0) s) (ic_rg (16 * l + a) (16 * l + b) (fun _ => 0) w) (l + 1)) mk) mk, sv) (nI i) := by
  have hin : vp_in (nI (16 * l + i)) 64 := vp_in_nI (by omega) (by decide)
  unfold wpX_clearInTop
  refine ic_Xtc ?_
  refine ⟨hin, br_c (fun z => ?_) fun z => ?_⟩
  · rw [nI_clamp (by omega), ic_rg_out (by omega)] at z
    rw [ic_b0 (f := fun k => s (16 * l + k)) z] at h
    unfold wX_clearInTop_18
    exact ic_Xput (p := fun _ => 0) (q := fun _ => 0) hl ha hi hb rfl rfl (Or.inl rfl) h
  · rw [nI_clamp (by omega), ic_rg_out (by omega)] at z
    rw [ic_b1 (f := fun k => s (16 * l + k)) z] at h
    unfold wX_clearInTop_18
    exact ic_Xput (p := fun _ => 0) (q := fun _ => 0) hl ha hi hb rfl rfl (Or.inl rfl) h
theorem ic_Xclr1 {post : Int32 → SX → Prop} {l c : Nat} (hl : l ≤ 3) (hc : c < 16)
    (h : post (ic_b (fun k => s (16 * l + k)) c)
      (nI (l + 1), f2, ic_rg (16 * l + c) (16 * l + (c + 1)) (fun _ => 0) s, ic_rg (16 * l + c) (16 * l + (c + 1)) (fun _ => 0) w, sS, sW, ic_M (ic_w s w (l + 1)) (ic_w (ic_rg (16 * l + c) (16 * l + (c + 1)) (fun _ => 0) s) (ic_rg (16 * l + c) (16 * l + (c + 1)) (fun _ => 0) w) (l + 1)) mk, sv)) :
    wpX_clearInTop post (nI (l + 1), f2, s, w, sS, sW, mk, sv) (nI c) := by
  have hV : ∀ k, k < 16 → k < c ∨ c + 1 ≤ k → ic_w s w (l + 1) k = ic_w (ic_rg (16 * l + c) (16 * l + (c + 1)) (fun _ => 0) s) (ic_rg (16 * l + c) (16 * l + (c + 1)) (fun _ => 0) w) (l + 1) k := fun k h1 h2 => ic_Vo h1 h2
  have g := ic_Xclr (post := post) (f2 := f2) (s := s) (w := w) (sS := sS) (sW := sW) (mk := mk) (sv := sv) (l := l) (a := c) (i := c) (b := c + 1) hl (by omega) (by omega) (by omega)
  rw [ic_e4 (by omega) hV, ic_rg_0, ic_rg_0, ic_e3 (by omega) hV] at g
  exact g h
theorem ic_Xaban0 {post : Int32 → SX → Prop} {l : Nat} (hl : l ≤ 3)
    (h : post (ic_s (ic_b (fun k => s (16 * l + k))) 16)
      (nI l, f2, ic_rg (16 * l + 0) (16 * l + 16) (fun _ => 0) s, ic_rg (16 * l + 0) (16 * l + 16) (fun _ => 0) w, sS, sW, ic_M (ic_w s w (l + 1)) (ic_w (ic_rg (16 * l + 0) (16 * l + 16) (fun _ => 0) s) (ic_rg (16 * l + 0) (16 * l + 16) (fun _ => 0) w) (l + 1)) mk, sv)) :
    ∀ d i, i + d = 16 → wX_abandon_22 post (d + 1) (ic_s (ic_b (fun k => s (16 * l + k))) i) (nI i)
      (nI (l + 1)) f2 (ic_rg (16 * l + 0) (16 * l + i) (fun _ => 0) s) (ic_rg (16 * l + 0) (16 * l + i) (fun _ => 0) w) sS sW (ic_rg 0 i (ic_m (ic_w s w (l + 1)) (ic_w (ic_rg (16 * l + 0) (16 * l + 16) (fun _ => 0) s) (ic_rg (16 * l + 0) (16 * l + 16) (fun _ => 0) w) (l + 1)) mk) mk) sv := by
  intro d
  induction d with
  | zero =>
    intro i hi
    obtain rfl : i = 16 := by omega
    refine br_t ic_16t fun y ey => ?_
    rw [ey, nI_pred]
    exact h
  | succ d ih =>
    intro i hi
    refine br_f (ic_16f (by omega)) (ic_Xclr hl (by omega) (by omega) (by omega) ?_)
    intro y ey z ez
    rw [ey, ez, nI_1]
    exact ih (i + 1) (by omega)
theorem ic_Xaban {post : Int32 → SX → Prop} {l : Nat} (hl : l ≤ 3)
    (h : post (ic_s (ic_b (fun k => s (16 * l + k))) 16)
      (nI l, f2, ic_rg (16 * l + 0) (16 * l + 16) (fun _ => 0) s, ic_rg (16 * l + 0) (16 * l + 16) (fun _ => 0) w, sS, sW, ic_M (ic_w s w (l + 1)) (ic_w (ic_rg (16 * l + 0) (16 * l + 16) (fun _ => 0) s) (ic_rg (16 * l + 0) (16 * l + 16) (fun _ => 0) w) (l + 1)) mk, sv)) :
    ∃ n, wX_abandon_22 post n 0 0 (nI (l + 1)) f2 s w sS sW mk sv := by
  have g := ic_Xaban0 hl h 16 0 (by omega)
  rw [ic_rg_0, ic_rg_0, ic_rg_0] at g
  exact ⟨_, g⟩
end
