/-! the reference's walks, each with a general post -/
section
variable {f1 f2 : Int32} {S W mk sv bf : Nat → Int32}
theorem ic_Yw {post : Int32 → Prop} {c : Nat} (hc : c < 16) : ∀ L, L ≤ 4 → post (ic_w S W L c) → wY_wordIn_4 post (nI c) f1 f2 S W mk sv bf (L + 1) (nI L - 1) := by
  intro L
  induction L with
  | zero => intro _ hp; exact br_t (by decide) hp
  | succ L ih =>
    intro hL hp
    rw [nI_pred]
    have hi : vp_in (16 * nI L + nI c) 128 := by
      rw [ic_iy]
      exact vp_in_nI (by omega) (by decide)
    refine br_f (nI_pos (by omega)) ⟨hi, br_c (fun z y ey => ?_) fun z => ⟨hi, ?_⟩⟩
    · rw [ic_iy, nI_clamp (by omega)] at z
      rw [ey, ic_m1]
      rw [ic_w0 z] at hp
      exact ih (by omega) hp
    · rw [ic_iy, nI_clamp (by omega)] at z
      rw [ic_iy, nI_clamp (by omega)]
      rw [ic_w1 z] at hp
      exact hp
theorem ic_Ywp {post : Int32 → Prop} {c L : Nat} (hL : L ≤ 4) (hc : c < 16) (h : post (ic_w S W L c)) : wpY_wordIn post (f1, f2, S, W, mk, sv, bf) (nI L) (nI c) := by
  intro x ex
  refine ⟨L + 1, ?_⟩
  rw [ex]
  exact ic_Yw hc L hL h
theorem ic_Ycy {post : Int32 → Prop} {c : Nat} (hc : c < 16) (h : post 1) : wpY_isCluster post (f1, f2, S, W, mk, sv, bf) (nI c) :=
  br_f (nI_pos (by omega)) (br_f (nI_nlt (b := c) (a := 15) (by omega) (by decide)) h)
theorem ic_Ycn {post : Int32 → Prop} {x : Int32} (hx : x < 0 ∨ (16 : Int32) ≤ x) (h : post 0) : wpY_isCluster post (f1, f2, S, W, mk, sv, bf) x :=
  br_c (fun _ => h) fun h0 => br_t (Int32.lt_of_lt_of_le (by decide) (hx.resolve_left h0)) h
theorem ic_Ysy {post : Int32 → Prop} {c t : Nat} (hc : c < t) (ht : t ≤ 4) (h : post 1) : wpY_isSnapshot post (f1, nI t, S, W, mk, sv, bf) (nI c) :=
  br_f (nI_pos (by omega)) (br_f (nI_ge hc (by omega)) h)
theorem ic_Ysn {post : Int32 → Prop} {x : Int32} {t : Nat} (hx : x < 0 ∨ nI t ≤ x) (h : post 0) : wpY_isSnapshot post (f1, nI t, S, W, mk, sv, bf) x :=
  br_c (fun _ => h) fun h0 => br_t (hx.resolve_left h0) h
theorem ic_Ynote {post : SY → Prop} {L : Nat} (hL : L ≤ 4) (h : post (nI L, f2, S, W, mk, sv, ic_rg 0 16 (ic_w S W L) bf)) : wpY_noteWords post (nI L, f2, S, W, mk, sv, bf) := by
  have g : ∀ d i, i + d = 16 → wY_noteWords_2 post (nI L) f2 (d + 1) (nI i) S W mk sv (ic_rg 0 i (ic_w S W L) bf) := by
    intro d
    induction d with
    | zero =>
      intro i hi
      obtain rfl : i = 16 := by omega
      exact br_t ic_16t h
    | succ d ih =>
      intro i hi
      refine br_f (ic_16f (by omega)) (ic_Ywp hL (by omega) ⟨vp_in_nI (by omega) (by decide), fun b1 e1 y ey => ?_⟩)
      rw [nI_clamp (by omega), ic_rg_st (by omega) rfl] at e1
      rw [ey, nI_1, e1]
      exact ih (i + 1) (by omega)
  have g0 := g 16 0 (by omega)
  rw [ic_rg_0] at g0
  exact ⟨_, g0⟩
theorem ic_Ychg {post : Int32 → SY → Prop} {L : Nat} (hL : L ≤ 4) (h : post (ic_D bf (ic_w S W L)) (nI L, f2, S, W, ic_M bf (ic_w S W L) mk, sv, bf)) : wpY_markChanges post (nI L, f2, S, W, mk, sv, bf) := by
  have g : ∀ d i, i + d = 16 → wY_markChanges_4 post (nI L) f2 (d + 1) (ic_s (ic_d bf (ic_w S W L)) i) (nI i) S W (ic_rg 0 i (ic_m bf (ic_w S W L) mk) mk) sv bf := by
    intro d
    induction d with
    | zero =>
      intro i hi
      obtain rfl : i = 16 := by omega
      exact br_t ic_16t h
    | succ d ih =>
      intro i hi
      have hin : vp_in (nI i) 16 := vp_in_nI (by omega) (by decide)
      have g := ih (i + 1) (by omega)
      refine br_f (ic_16f (by omega)) ⟨hin, ic_Ywp hL (by omega) ?_⟩
      refine br_c (fun z y ey => ?_) fun z => ⟨hin, fun m1 e1 y ey q eq => ?_⟩
      · rw [nI_clamp (by omega)] at z
        rw [← ic_rg_k (p := ic_m bf (ic_w S W L) mk) (ic_m0 z)] at g
        rw [ey, nI_1, ic_s_k (ic_d0 z)]
        exact g
      · rw [nI_clamp (by omega)] at z
        rw [nI_clamp (by omega), ic_n1, ic_rg_st (by omega) (ic_m1' z).symm] at e1
        rw [ey, eq, nI_1, e1, ic_s_1 (ic_d1 z)]
        exact g
  have g0 := g 16 0 (by omega)
  rw [ic_rg_0] at g0
  exact ⟨_, g0⟩
theorem ic_Ycopy {post : SY → Prop} {x y : Nat} {X Y : Int32} (hX : X = nI x) (hY : Y = nI y) (hx : x ≤ 7) (hy : y ≤ 7) (hxy : x ≠ y) (h01 : ∀ j, S j = 0 ∨ S j = 1)
    (h : post (f1, f2, ic_rg (16 * y) (16 * y + 16) (fun j => S (j - 16 * y + 16 * x)) S, ic_rg (16 * y) (16 * y + 16) (fun j => W (j - 16 * y + 16 * x)) W, mk, sv, bf)) : wpY_copyList post (f1, f2, S, W, mk, sv, bf) X Y := by
  subst hX hY
  have g : ∀ d i, i + d = 16 → wY_copyList_2 post (nI x) (nI y) f1 f2 (d + 1) (nI i) (ic_rg (16 * y) (16 * y + i) (fun j => S (j - 16 * y + 16 * x)) S) (ic_rg (16 * y) (16 * y + i) (fun j => W (j - 16 * y + 16 * x)) W) mk sv bf := by
    intro d
    induction d with
    | zero =>
      intro i hi
      obtain rfl : i = 16 := by omega
      exact br_t ic_16t h
    | succ d ih =>
      intro i hi
      have hix : vp_in (16 * nI x + nI i) 128 := by
        rw [ic_iy]
        exact vp_in_nI (by omega) (by decide)
      have hiy : vp_in (16 * nI y + nI i) 128 := by
        rw [ic_iy]
        exact vp_in_nI (by omega) (by decide)
      refine br_f (ic_16f (by omega)) ⟨hix, hiy, fun s1 e1 => ⟨hix, hiy, fun w1 e2 z ez => ?_⟩⟩
      have ec : 16 * x + i = 16 * y + i - 16 * y + 16 * x := by omega
      rw [ic_iy, ic_iy, nI_clamp (by omega), nI_clamp (by omega), ic_rg_out (by omega), ic_n (h01 _), ic_rg_st (p := fun j => S (j - 16 * y + 16 * x)) (by omega) (congrArg S ec)] at e1
      rw [ic_iy, ic_iy, nI_clamp (by omega), nI_clamp (by omega), ic_rg_out (by omega), ic_rg_st (p := fun j => W (j - 16 * y + 16 * x)) (by omega) (congrArg W ec)] at e2
      rw [ez, nI_1, e1, e2]
      exact ih (i + 1) (by omega)
  have g0 := g 16 0 (by omega)
  rw [ic_rg_z, ic_rg_z] at g0
  exact ⟨_, g0⟩
theorem ic_Ycs {post : Int32 → Prop} {x : Nat} {X : Int32} (hX : X = nI x) (hx : x ≤ 7) (h : post (ic_s (ic_b (fun k => S (16 * x + k))) 16)) : wpY_countSaid post (f1, f2, S, W, mk, sv, bf) X := by
  subst hX
  have g : ∀ d i, i + d = 16 → wY_countSaid_4 post (nI x) f1 f2 S W mk sv bf (d + 1) (ic_s (ic_b (fun k => S (16 * x + k))) i) (nI i) := by
    intro d
    induction d with
    | zero =>
      intro i hi
      obtain rfl : i = 16 := by omega
      exact br_t ic_16t h
    | succ d ih =>
      intro i hi
      have hix : vp_in (16 * nI x + nI i) 128 := by
        rw [ic_iy]
        exact vp_in_nI (by omega) (by decide)
      refine br_f (ic_16f (by omega)) ⟨hix, br_c (fun z y ey => ?_) fun z y ey q eq => ?_⟩
      · rw [ic_iy, nI_clamp (by omega)] at z
        rw [ey, nI_1, ic_s_k (ic_b0 (f := fun k => S (16 * x + k)) z)]
        exact ih (i + 1) (by omega)
      · rw [ic_iy, nI_clamp (by omega)] at z
        rw [ey, eq, nI_1, ic_s_1 (ic_b1 (f := fun k => S (16 * x + k)) z)]
        exact ih (i + 1) (by omega)
  exact ⟨_, g 16 0 (by omega)⟩
theorem ic_Yfill {post : Int32 → SY → Prop} {l a D : Nat} {x : Int32} (hl : l ≤ 3) (hD : D < 16) (ha : a ≤ D)
    (h : post (ic_D bf (ic_w (ic_rg (16 * l + a) (16 * l + (D + 1)) (fun _ => 1) S) (ic_rg (16 * l + a) (16 * l + (D + 1)) (fun _ => x) W) (l + 1)))
      (nI (l + 1), f2, ic_rg (16 * l + a) (16 * l + (D + 1)) (fun _ => 1) S, ic_rg (16 * l + a) (16 * l + (D + 1)) (fun _ => x) W, ic_M bf (ic_w (ic_rg (16 * l + a) (16 * l + (D + 1)) (fun _ => 1) S) (ic_rg (16 * l + a) (16 * l + (D + 1)) (fun _ => x) W) (l + 1)) mk, sv, bf)) :
    ∃ n, wY_fill_30 post (nI D) x (nI (l + 1)) f2 n (nI a) S W mk sv bf := by
  have g : ∀ d i, i + d = D + 1 → a ≤ i → wY_fill_30 post (nI D) x (nI (l + 1)) f2 (d + 1) (nI i) (ic_rg (16 * l + a) (16 * l + i) (fun _ => 1) S) (ic_rg (16 * l + a) (16 * l + i) (fun _ => x) W) mk sv bf := by
    intro d
    induction d with
    | zero =>
      intro i hi hai
      obtain rfl : i = D + 1 := by omega
      exact br_t (nI_lt (by omega) (by omega)) (ic_Ychg (by omega) h)
    | succ d ih =>
      intro i hi hai
      have hix : vp_in (16 * (nI (l + 1) - 1) + nI i) 128 := by
        rw [ic_iy1]
        exact vp_in_nI (by omega) (by decide)
      refine br_f (nI_nlt (by omega) (by omega)) ⟨hix, fun s1 e1 => ⟨hix, fun w1 e2 z ez => ?_⟩⟩
      rw [ic_iy1, nI_clamp (by omega), ic_n1, ic_rg_st (by omega) rfl] at e1
      rw [ic_iy1, nI_clamp (by omega), ic_rg_st (by omega) rfl] at e2
      rw [ez, nI_1, e1, e2]
      exact ih (i + 1) (by omega) (by omega)
  have g0 := g (D + 1 - a) a (by omega) (by omega)
  rw [ic_rg_0, ic_rg_0] at g0
  exact ⟨_, g0⟩
theorem ic_Yover {post : Int32 → SY → Prop} {l : Nat} (hl : l ≤ 3) (h : post (nI (l + 1)) (nI (l + 1), f2, ic_rg (16 * l) (16 * l + 16) (fun _ => 0) S, W, mk, sv, bf)) :
    ∃ n, wY_overlay_23 post (nI l) f2 n 0 S W mk sv bf := by
  have g : ∀ d i, i + d = 16 → wY_overlay_23 post (nI l) f2 (d + 1) (nI i) (ic_rg (16 * l) (16 * l + i) (fun _ => 0) S) W mk sv bf := by
    intro d
    induction d with
    | zero =>
      intro i hi
      obtain rfl : i = 16 := by omega
      refine br_t ic_16t fun y ey => ?_
      rw [ey, nI_1]
      exact h
    | succ d ih =>
      intro i hi
      have hix : vp_in (16 * nI l + nI i) 128 := by
        rw [ic_iy]
        exact vp_in_nI (by omega) (by decide)
      refine br_f (ic_16f (by omega)) ⟨hix, fun s1 e1 z ez => ?_⟩
      rw [ic_iy, nI_clamp (by omega), ic_n0, ic_rg_st (by omega) rfl] at e1
      rw [ez, nI_1, e1]
      exact ih (i + 1) (by omega)
  have g0 := g 16 0 (by omega)
  rw [ic_rg_z] at g0
  exact ⟨_, g0⟩
theorem ic_Ycom {post : Int32 → SY → Prop} {m : Nat} (hm : m ≤ 2)
    (h : post (ic_s (ic_b (fun k => S (16 * (m + 1) + k))) 16) (nI (m + 1), f2, ic_rg (16 * m) (16 * m + 16) (ic_ps S) S, ic_rg (16 * m) (16 * m + 16) (ic_pw S W) W, mk, sv, bf)) :
    ∃ n, wY_commit_27 post (nI (m + 1)) (nI (m + 1 + 1)) f2 n 0 S W mk sv bf := by
  have g : ∀ d i, i + d = 16 → wY_commit_27 post (nI (m + 1)) (nI (m + 1 + 1)) f2 (d + 1) (nI i) (ic_rg (16 * m) (16 * m + i) (ic_ps S) S) (ic_rg (16 * m) (16 * m + i) (ic_pw S W) W) mk sv bf := by
    intro d
    induction d with
    | zero =>
      intro i hi
      obtain rfl : i = 16 := by omega
      refine br_t ic_16t fun y ey => ?_
      rw [ey, nI_pred]
      refine ic_Ycs rfl (by omega) ?_
      have e : ic_s (ic_b (fun k => ic_rg (16 * m) (16 * m + 16) (ic_ps S) S (16 * (m + 1) + k))) 16 = ic_s (ic_b (fun k => S (16 * (m + 1) + k))) 16 := by
        exact ic_s_cong 16 fun k hk => ic_b_cong (ic_rg_out (by omega))
      rw [e]
      exact h
    | succ d ih =>
      intro i hi
      have hix : vp_in (16 * nI (m + 1) + nI i) 128 := by
        rw [ic_iy]
        exact vp_in_nI (by omega) (by decide)
      have hiy : vp_in (16 * (nI (m + 1) - 1) + nI i) 128 := by
        rw [ic_iy1]
        exact vp_in_nI (by omega) (by decide)
      have g := ih (i + 1) (by omega)
      refine br_f (ic_16f (by omega)) ⟨hix, br_c (fun z y ey => ?_) fun z => ⟨hiy, fun s1 e1 => ⟨hix, hiy, fun w1 e2 y ey => ?_⟩⟩⟩
      · rw [ic_iy, nI_clamp (by omega), ic_rg_out (by omega), show 16 * (m + 1) + i = 16 * m + i + 16 by omega] at z
        rw [← Nat.add_assoc, ← ic_rg_k (p := ic_ps S) (ic_ps0 z), ← ic_rg_k (p := ic_pw S W) (ic_pw0 z)] at g
        rw [ey, nI_1]
        exact g
      · rw [ic_iy, nI_clamp (by omega), ic_rg_out (by omega), show 16 * (m + 1) + i = 16 * m + i + 16 by omega] at z
        rw [ic_iy1, nI_clamp (by omega), ic_n1, ic_rg_st (by omega) (ic_ps1 z).symm] at e1
        rw [ic_iy1, ic_iy, nI_clamp (by omega), nI_clamp (by omega), ic_rg_out (by omega), show 16 * (m + 1) + i = 16 * m + i + 16 by omega, ic_rg_st (by omega) (ic_pw1 z).symm] at e2
        rw [ey, nI_1, e1, e2]
        exact g
  have g0 := g 16 0 (by omega)
  rw [ic_rg_z, ic_rg_z] at g0
  exact ⟨_, g0⟩
theorem ic_Ypull {post : Int32 → SY → Prop} {m : Nat} (hm : m ≤ 2)
    (h : post (nI (m + 1)) (nI (m + 1), f2, ic_rg (16 * m) (16 * m + 16) (ic_ps S) S, ic_rg (16 * m) (16 * m + 16) (ic_pw S W) W, mk, sv, bf)) :
    ∃ n, wY_pull_20 post (nI (m + 1)) (nI (m + 1 + 1)) f2 n 0 S W mk sv bf := by
  have g : ∀ d i, i + d = 16 → wY_pull_20 post (nI (m + 1)) (nI (m + 1 + 1)) f2 (d + 1) (nI i) (ic_rg (16 * m) (16 * m + i) (ic_ps S) S) (ic_rg (16 * m) (16 * m + i) (ic_pw S W) W) mk sv bf := by
    intro d
    induction d with
    | zero =>
      intro i hi
      obtain rfl : i = 16 := by omega
      refine br_t ic_16t fun y ey => ?_
      rw [ey, nI_pred]
      exact h
    | succ d ih =>
      intro i hi
      have hix : vp_in (16 * nI (m + 1) + nI i) 128 := by
        rw [ic_iy]
        exact vp_in_nI (by omega) (by decide)
      have hiy : vp_in (16 * (nI (m + 1) - 1) + nI i) 128 := by
        rw [ic_iy1]
        exact vp_in_nI (by omega) (by decide)
      have g := ih (i + 1) (by omega)
      refine br_f (ic_16f (by omega)) ⟨hix, br_c (fun z y ey => ?_) fun z => ⟨hiy, fun s1 e1 => ⟨hix, hiy, fun w1 e2 y ey => ?_⟩⟩⟩
      · rw [ic_iy, nI_clamp (by omega), ic_rg_out (by omega), show 16 * (m + 1) + i = 16 * m + i + 16 by omega] at z
        rw [← Nat.add_assoc, ← ic_rg_k (p := ic_ps S) (ic_ps0 z), ← ic_rg_k (p := ic_pw S W) (ic_pw0 z)] at g
        rw [ey, nI_1]
        exact g
      · rw [ic_iy, nI_clamp (by omega), ic_rg_out (by omega), show 16 * (m + 1) + i = 16 * m + i + 16 by omega] at z
        rw [ic_iy1, nI_clamp (by omega), ic_n1, ic_rg_st (by omega) (ic_ps1 z).symm] at e1
        rw [ic_iy1, ic_iy, nI_clamp (by omega), nI_clamp (by omega), ic_rg_out (by omega), show 16 * (m + 1) + i = 16 * m + i + 16 by omega, ic_rg_st (by omega) (ic_pw1 z).symm] at e2
        rw [ey, nI_1, e1, e2]
        exact g
  have g0 := g 16 0 (by omega)
  rw [ic_rg_z, ic_rg_z] at g0
  exact ⟨_, g0⟩
end
