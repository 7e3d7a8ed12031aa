/-! the reference's other loops -/
section
variable {f1 f2 : Int32} {S W mk sv bf : Nat → Int32}
/-- the lists behind snapshot r moved down, up to list x: one more -/
theorem ic_fg {G : Nat → Int32} {r x : Nat} (hr : r ≤ x) : ic_rg (16 * (4 + x)) (16 * (4 + x) + 16) (fun j => ic_rg (64 + 16 * r) (64 + 16 * x) (fun j => G (j + 16)) G (j - 16 * (4 + x) + 16 * (5 + x))) (ic_rg (64 + 16 * r) (64 + 16 * x) (fun j => G (j + 16)) G) = ic_rg (64 + 16 * r) (64 + 16 * (x + 1)) (fun j => G (j + 16)) G := by
  funext j
  by_cases h1 : 16 * (4 + x) ≤ j ∧ j < 16 * (4 + x) + 16
  · rw [ic_rg_in h1.1 h1.2, ic_rg_in (j := j) (by omega) (by omega), ic_rg_out (by omega)]
    exact congrArg G (by omega)
  · rw [ic_rg_out (by omega)]
    exact ic_rg_eq (by omega)
theorem ic_fg01 {G : Nat → Int32} {lo hi : Nat} (h01 : ∀ j, G j = 0 ∨ G j = 1) : ∀ j, ic_rg lo hi (fun j => G (j + 16)) G j = 0 ∨ ic_rg lo hi (fun j => G (j + 16)) G j = 1 :=
  ic_rg_01 (fun j _ _ => h01 (j + 16)) h01
theorem ic_Yforg {post : Int32 → SY → Prop} {r t : Nat} (ht : t ≤ 3) (hr : r ≤ t) (h01 : ∀ j, S j = 0 ∨ S j = 1)
    (h : post (nI t) (f1, nI t, ic_rg (64 + 16 * r) (64 + 16 * t) (fun j => S (j + 16)) S, ic_rg (64 + 16 * r) (64 + 16 * t) (fun j => W (j + 16)) W, mk, sv, bf)) :
    ∃ n, wY_forget_13 post n (nI r) f1 (nI (t + 1)) S W mk sv bf := by
  have g : ∀ d x, x + d = t → r ≤ x → wY_forget_13 post (d + 1) (nI x) f1 (nI (t + 1)) (ic_rg (64 + 16 * r) (64 + 16 * x) (fun j => S (j + 16)) S) (ic_rg (64 + 16 * r) (64 + 16 * x) (fun j => W (j + 16)) W) mk sv bf := by
    intro d
    induction d with
    | zero =>
      intro x hx hrx
      obtain rfl : x = t := by omega
      refine br_t ?_ fun y ey => ?_
      · rw [nI_pred]
        exact nI_le (Nat.le_refl _) (by omega)
      · rw [ey, nI_pred]
        exact h
    | succ d ih =>
      intro x hx hrx
      refine br_f ?_ (ic_Ycopy (x := 5 + x) (y := 4 + x) (nI_add 5 x) (nI_add 4 x) (by omega) (by omega) (by omega) (ic_fg01 h01) ?_)
      · rw [nI_pred]
        exact nI_ge (by omega) (by omega)
      · rw [ic_fg hrx, ic_fg hrx]
        intro y ey
        rw [ey, nI_1]
        exact ih (x + 1) (by omega) (by omega)
  have g0 := g (t - r) r (by omega) (by omega)
  rw [ic_rg_0, ic_rg_0] at g0
  exact ⟨_, g0⟩
theorem ic_Ymark {post : Int32 → Prop} (h : post (ic_s (ic_b mk) 16)) : wpY_marked post (f1, f2, S, W, mk, sv, bf) := by
  have g : ∀ d i, i + d = 16 → wY_marked_4 post f1 f2 S W mk sv bf (d + 1) (ic_s (ic_b mk) i) (nI i) := by
    intro d
    induction d with
    | zero =>
      intro i hi
      obtain rfl : i = 16 := by omega
      exact br_t ic_16t h
    | succ d ih =>
      intro i hi
      refine br_f (ic_16f (by omega)) ⟨vp_in_nI (by omega) (by decide), br_c (fun z y ey => ?_) fun z y ey q eq => ?_⟩
      · rw [nI_clamp (by omega)] at z
        rw [ey, nI_1, ic_s_k (ic_b0 z)]
        exact ih (i + 1) (by omega)
      · rw [nI_clamp (by omega)] at z
        rw [ey, eq, nI_1, ic_s_1 (ic_b1 z)]
        exact ih (i + 1) (by omega)
  exact ⟨_, g 16 0 (by omega)⟩
theorem ic_Yback {post : Int32 → SY → Prop} {L : Nat} {x : Int32} (hL : L ≤ 4) (h : post x (nI L, f2, S, W, ic_rg 0 16 (fun _ => 0) mk, ic_rg 0 16 (ic_sv mk sv (ic_w S W L)) sv, bf)) : ∃ n, wY_backup_7 post x (nI L) f2 n 0 S W mk sv bf := by
  have g : ∀ d i, i + d = 16 → wY_backup_7 post x (nI L) f2 (d + 1) (nI i) S W (ic_rg 0 i (fun _ => 0) mk) (ic_rg 0 i (ic_sv mk sv (ic_w S W L)) sv) bf := by
    intro d
    induction d with
    | zero =>
      intro i hi
      obtain rfl : i = 16 := by omega
      exact br_t ic_16t h
    | succ d ih =>
      intro i hi
      have hin : vp_in (nI i) 16 := vp_in_nI (by omega) (by decide)
      have g := ih (i + 1) (by omega)
      refine br_f (ic_16f (by omega)) ⟨hin, br_c (fun z y ey => ?_) fun z => ?_⟩
      · rw [nI_clamp (by omega), ic_rg_out (by omega)] at z
        rw [← ic_rg_k (p := fun _ => 0) z.symm, ← ic_rg_k (p := ic_sv mk sv (ic_w S W L)) (ic_sv0 z)] at g
        rw [ey, nI_1]
        exact g
      · rw [nI_clamp (by omega), ic_rg_out (by omega)] at z
        refine ic_Ywp hL (by omega) ⟨hin, fun v1 e1 => ⟨hin, fun m1 e2 y ey => ?_⟩⟩
        rw [nI_clamp (by omega), ic_rg_st (by omega) (ic_sv1 z).symm] at e1
        rw [nI_clamp (by omega), ic_n0, ic_rg_st (by omega) rfl] at e2
        rw [ey, nI_1, e1, e2]
        exact g
  have g0 := g 16 0 (by omega)
  rw [ic_rg_0, ic_rg_0] at g0
  exact ⟨_, g0⟩
theorem ic_Ybeh {post : Int32 → Prop} {L : Nat} (hL : L ≤ 4) (h : post (ic_D sv (ic_w S W L))) : wpY_behind post (nI L, f2, S, W, mk, sv, bf) := by
  have g : ∀ d i, i + d = 16 → wY_behind_4 post (nI L) f2 S W mk sv bf (d + 1) (ic_s (ic_d sv (ic_w S W L)) i) (nI i) := by
    intro d
    induction d with
    | zero =>
      intro i hi
      obtain rfl : i = 16 := by omega
      exact br_t ic_16t h
    | succ d ih =>
      intro i hi
      refine br_f (ic_16f (by omega)) ⟨vp_in_nI (by omega) (by decide), ic_Ywp hL (by omega) ?_⟩
      refine br_c (fun z y ey => ?_) fun z y ey q eq => ?_
      · rw [nI_clamp (by omega)] at z
        rw [ey, nI_1, ic_s_k (ic_d0 z)]
        exact ih (i + 1) (by omega)
      · rw [nI_clamp (by omega)] at z
        rw [ey, eq, nI_1, ic_s_1 (ic_d1 z)]
        exact ih (i + 1) (by omega)
  exact ⟨_, g 16 0 (by omega)⟩
theorem ic_Ydig {post : Int32 → Prop} {L : Nat} (hL : L ≤ 4) (h : post (ic_s (fun k => (nI k + 1) * ic_w S W L k) 16)) : wpY_digest post (nI L, f2, S, W, mk, sv, bf) := by
  have g : ∀ d i, i + d = 16 → wY_digest_4 post (nI L) f2 S W mk sv bf (d + 1) (ic_s (fun k => (nI k + 1) * ic_w S W L k) i) (nI i) := by
    intro d
    induction d with
    | zero =>
      intro i hi
      obtain rfl : i = 16 := by omega
      exact br_t ic_16t h
    | succ d ih =>
      intro i hi
      refine br_f (ic_16f (by omega)) (ic_Ywp hL (by omega) ?_)
      intro y ey q eq
      rw [eq, nI_1 i, ey]
      exact ih (i + 1) (by omega)
  exact ⟨_, g 16 0 (by omega)⟩
end
