/-! the component's other loops -/
section
variable {f1 f2 : Int32} {s w sS sW mk sv : Nat → Int32}
/-- the image below (cells from 16 m on) when the image above it (16 cells further) is laid over it: what it says, its words -/
def ic_ps (s : Nat → Int32) : Nat → Int32 := fun j => if s (j + 16) = 0 then s j else 1
def ic_pw (s w : Nat → Int32) : Nat → Int32 := fun j => if s (j + 16) = 0 then w j else w (j + 16)
theorem ic_ps0 {s : Nat → Int32} {j : Nat} (h : s (j + 16) = 0) : ic_ps s j = s j := if_pos h
theorem ic_ps1 {s : Nat → Int32} {j : Nat} (h : ¬ s (j + 16) = 0) : ic_ps s j = 1 := if_neg h
theorem ic_pw0 {s w : Nat → Int32} {j : Nat} (h : s (j + 16) = 0) : ic_pw s w j = w j := if_pos h
theorem ic_pw1 {s w : Nat → Int32} {j : Nat} (h : ¬ s (j + 16) = 0) : ic_pw s w j = w (j + 16) := if_neg h
theorem ic_Xmrg0 {post : Int32 → SX → Prop} {m : Nat} (hm : m ≤ 2)
    (h : post (ic_s (ic_b (fun k => s (16 * (m + 1) + k))) 16) (nI (m + 1), f2, ic_rg (16 * (m + 1)) (16 * (m + 1) + 16) (fun _ => 0) (ic_rg (16 * m) (16 * m + 16) (ic_ps s) s), ic_rg (16 * m) (16 * m + 16) (ic_pw s w) w, sS, sW, mk, sv)) :
    ∀ d i, i + d = 16 → wX_mergeTopDown_4 post (nI (m + 1 + 1)) f2 (d + 1) (ic_s (ic_b (fun k => s (16 * (m + 1) + k))) i) (nI i)
      (ic_rg (16 * (m + 1)) (16 * (m + 1) + i) (fun _ => 0) (ic_rg (16 * m) (16 * m + i) (ic_ps s) s)) (ic_rg (16 * m) (16 * m + i) (ic_pw s w) w) sS sW mk sv := by
  intro d
  induction d with
  | zero =>
    intro i hi
    obtain rfl : i = 16 := by omega
    refine br_t ic_16t fun y ey => ?_
    rw [ey, nI_pred]
    exact h
  | succ d ih =>
    intro i hi
    have hin : vp_in (nI (16 * (m + 1) + i)) 64 := vp_in_nI (by omega) (by decide)
    have hib : vp_in (nI (16 * m + i)) 64 := vp_in_nI (by omega) (by decide)
    refine br_f (ic_16f (by omega)) (ic_Xtc ?_)
    intro x ex
    have ex' : x = nI (16 * m + i) := ex.trans ((pk_sub (b := 16) (show 16 ≤ 16 * (m + 1) + i by omega)).trans (congrArg nI (by omega)))
    clear ex
    subst ex'
    have g := ih (i + 1) (by omega)
    refine ⟨hin, br_c (fun z y ey => ?_) fun z => ?_⟩
    · rw [nI_clamp (by omega), ic_rg_out (by omega), ic_rg_out (by omega)] at z
      have z' : s (16 * m + i + 16) = 0 := by rw [show 16 * m + i + 16 = 16 * (m + 1) + i by omega]; exact z
      rw [← ic_s_k (ic_b0 (f := fun k => s (16 * (m + 1) + k)) z), ← Nat.add_assoc, ← Nat.add_assoc, ← ic_rg_k (p := ic_ps s) (ic_ps0 z'), ← ic_rg_k (p := ic_pw s w) (ic_pw0 z')] at g
      rw [← ic_rg_k (lo := 16 * (m + 1)) (show (fun _ => (0 : Int32)) (16 * (m + 1) + i) = ic_rg (16 * m) (16 * m + i) (ic_ps s) s (16 * (m + 1) + i) by rw [ic_rg_out (by omega), z])] at g
      rw [ey, nI_1]
      exact g
    · rw [nI_clamp (by omega), ic_rg_out (by omega), ic_rg_out (by omega)] at z
      have z' : ¬ s (16 * m + i + 16) = 0 := by rw [show 16 * m + i + 16 = 16 * (m + 1) + i by omega]; exact z
      refine ⟨hib, fun s1 e1 => ⟨hin, hib, fun w1 e2 => ⟨hin, fun s2 e3 y ey q eq => ?_⟩⟩⟩
      rw [nI_clamp (by omega), ic_n1, ic_rg_up (by omega), ic_rg_st (by omega) (ic_ps1 z').symm] at e1
      rw [nI_clamp (by omega), nI_clamp (by omega), ic_rg_out (by omega), show 16 * (m + 1) + i = 16 * m + i + 16 by omega, ic_rg_st (by omega) (ic_pw1 z').symm] at e2
      rw [nI_clamp (by omega), ic_n0, e1, ic_rg_st (by omega) rfl] at e3
      rw [ey, eq, nI_1, e3, e2, ic_s_1 (ic_b1 (f := fun k => s (16 * (m + 1) + k)) z)]
      exact g
theorem ic_Xmrg {post : Int32 → SX → Prop} {m : Nat} (hm : m ≤ 2)
    (h : post (ic_s (ic_b (fun k => s (16 * (m + 1) + k))) 16) (nI (m + 1), f2, ic_rg (16 * (m + 1)) (16 * (m + 1) + 16) (fun _ => 0) (ic_rg (16 * m) (16 * m + 16) (ic_ps s) s), ic_rg (16 * m) (16 * m + 16) (ic_pw s w) w, sS, sW, mk, sv)) :
    wpX_mergeTopDown post (nI (m + 1 + 1), f2, s, w, sS, sW, mk, sv) := by
  have g := ic_Xmrg0 hm h 16 0 (by omega)
  rw [ic_rg_z, ic_rg_z, ic_rg_z] at g
  exact ⟨_, g⟩
theorem ic_Xsnap0 {post : Int32 → SX → Prop} {l t : Nat} (hl : l ≤ 3) (ht : t ≤ 3) (h01 : ∀ j, s j = 0 ∨ s j = 1)
    (h : post (nI t) (nI (l + 1), nI (t + 1), s, w, ic_rg (16 * t) (16 * t + 16) (fun j => s (j - 16 * t + 16 * l)) sS, ic_rg (16 * t) (16 * t + 16) (fun j => w (j - 16 * t + 16 * l)) sW, mk, sv)) :
    ∀ d i, i + d = 16 → wX_snapshot_18 post (nI t) (nI (l + 1)) (nI t) (d + 1) (nI i) s w
      (ic_rg (16 * t) (16 * t + i) (fun j => s (j - 16 * t + 16 * l)) sS) (ic_rg (16 * t) (16 * t + i) (fun j => w (j - 16 * t + 16 * l)) sW) mk sv := by
  intro d
  induction d with
  | zero =>
    intro i hi
    obtain rfl : i = 16 := by omega
    refine br_t ic_16t fun y ey => ?_
    rw [ey, nI_1]
    exact h
  | succ d ih =>
    intro i hi
    have hin : vp_in (nI (16 * l + i)) 64 := vp_in_nI (by omega) (by decide)
    have hit : vp_in (nI (16 * t + i)) 64 := vp_in_nI (by omega) (by decide)
    refine br_f (ic_16f (by omega)) (ic_Xtc ?_)
    intro x ex
    rw [ic_ix] at ex
    subst ex
    refine ⟨hin, hit, fun s1 e1 => ⟨hin, hit, fun w1 e2 y ey => ?_⟩⟩
    rw [nI_clamp (by omega), nI_clamp (by omega), ic_n (h01 _), ic_rg_st (p := fun j => s (j - 16 * t + 16 * l)) (by omega) (congrArg s (show 16 * l + i = 16 * t + i - 16 * t + 16 * l by omega))] at e1
    rw [nI_clamp (by omega), nI_clamp (by omega), ic_rg_st (p := fun j => w (j - 16 * t + 16 * l)) (by omega) (congrArg w (show 16 * l + i = 16 * t + i - 16 * t + 16 * l by omega))] at e2
    rw [ey, nI_1, e1, e2]
    exact ih (i + 1) (by omega)
theorem ic_Xsnap {post : Int32 → SX → Prop} {l t : Nat} (hl : l ≤ 3) (ht : t ≤ 3) (h01 : ∀ j, s j = 0 ∨ s j = 1)
    (h : post (nI t) (nI (l + 1), nI (t + 1), s, w, ic_rg (16 * t) (16 * t + 16) (fun j => s (j - 16 * t + 16 * l)) sS, ic_rg (16 * t) (16 * t + 16) (fun j => w (j - 16 * t + 16 * l)) sW, mk, sv)) :
    ∃ n, wX_snapshot_18 post (nI t) (nI (l + 1)) (nI t) n 0 s w sS sW mk sv := by
  have g := ic_Xsnap0 hl ht h01 h 16 0 (by omega)
  rw [ic_rg_z, ic_rg_z] at g
  exact ⟨_, g⟩
theorem ic_Xforg0 {post : Int32 → SX → Prop} {r t : Nat} (ht : t ≤ 3) (h01 : ∀ j, sS j = 0 ∨ sS j = 1)
    (h : post (nI t) (f1, nI t, s, w, ic_rg (16 * r) (16 * t) (fun j => sS (j + 16)) sS, ic_rg (16 * r) (16 * t) (fun j => sW (j + 16)) sW, mk, sv)) :
    ∀ d i, i + d = 16 * t → 16 * r ≤ i → wX_forget_26 post f1 (nI t) (d + 1) (nI i) s w
      (ic_rg (16 * r) i (fun j => sS (j + 16)) sS) (ic_rg (16 * r) i (fun j => sW (j + 16)) sW) mk sv := by
  have e16 : nI t * 16 = nI (16 * t) := (pk_mul t 16).trans (congrArg nI (Nat.mul_comm t 16))
  intro d
  induction d with
  | zero =>
    intro i hi hr
    obtain rfl : i = 16 * t := by omega
    refine br_t ?_ h
    rw [e16]
    exact nI_le (Nat.le_refl _) (by omega)
  | succ d ih =>
    intro i hi hr
    refine br_f ?_ fun x ex => ?_
    · rw [e16]
      exact nI_ge (by omega) (by omega)
    · have ex' : x = nI (i + 16) := ex.trans (nI_add i 16)
      clear ex
      subst ex'
      have h1 : vp_in (nI (i + 16)) 64 := vp_in_nI (by omega) (by decide)
      have h2 : vp_in (nI i) 64 := vp_in_nI (by omega) (by decide)
      refine ⟨h1, h2, fun s1 e1 => ⟨h1, h2, fun w1 e2 y ey => ?_⟩⟩
      rw [nI_clamp (by omega), nI_clamp (by omega), ic_rg_out (by omega), ic_n (h01 _), ic_rg_st (by omega) rfl] at e1
      rw [nI_clamp (by omega), nI_clamp (by omega), ic_rg_out (by omega), ic_rg_st (by omega) rfl] at e2
      rw [ey, nI_1, e1, e2]
      exact ih (i + 1) (by omega) (by omega)
theorem ic_Xforg {post : Int32 → SX → Prop} {r t : Nat} (ht : t ≤ 3) (hr : r ≤ t) (h01 : ∀ j, sS j = 0 ∨ sS j = 1)
    (h : post (nI t) (f1, nI t, s, w, ic_rg (16 * r) (16 * t) (fun j => sS (j + 16)) sS, ic_rg (16 * r) (16 * t) (fun j => sW (j + 16)) sW, mk, sv)) :
    ∃ n, wX_forget_26 post f1 (nI t) n (nI (16 * r)) s w sS sW mk sv := by
  have g := ic_Xforg0 (r := r) ht h01 h (16 * t - 16 * r) (16 * r) (by omega) (by omega)
  rw [ic_rg_0, ic_rg_0] at g
  exact ⟨_, g⟩
theorem ic_Xmark {post : Int32 → Prop} (h : post (ic_s (ic_b mk) 16)) : wpX_marked post (f1, f2, s, w, sS, sW, mk, sv) := by
  have g : ∀ d i, i + d = 16 → wX_marked_4 post f1 f2 s w sS sW mk sv (d + 1) (ic_s (ic_b mk) i) (nI i) := by
    intro d
    induction d with
    | zero =>
      intro i hi
      obtain rfl : i = 16 := by omega
      exact br_t ic_16t h
    | succ d ih =>
      intro i hi
      refine br_f (ic_16f (by omega)) ⟨vp_in_nI (by omega) (by decide), br_c (fun z y ey => ?_) fun z y ey q eq => ?_⟩
      · rw [nI_clamp (by omega)] at z
        rw [ey, nI_1, ic_s_k (ic_b0 z)]
        exact ih (i + 1) (by omega)
      · rw [nI_clamp (by omega)] at z
        rw [ey, eq, nI_1, ic_s_1 (ic_b1 z)]
        exact ih (i + 1) (by omega)
  exact ⟨_, g 16 0 (by omega)⟩
/-- what the backup saves -/
def ic_sv (mk sv V : Nat → Int32) : Nat → Int32 := fun k => if mk k = 0 then sv k else V k
theorem ic_sv0 {mk sv V : Nat → Int32} {k : Nat} (h : mk k = 0) : ic_sv mk sv V k = sv k := if_pos h
theorem ic_sv1 {mk sv V : Nat → Int32} {k : Nat} (h : ¬ mk k = 0) : ic_sv mk sv V k = V k := if_neg h
theorem ic_Xback {post : Int32 → SX → Prop} {L : Nat} (hL : L ≤ 4) (h : post (ic_s (ic_b mk) 16) (nI L, f2, s, w, sS, sW, ic_rg 0 16 (fun _ => 0) mk, ic_rg 0 16 (ic_sv mk sv (ic_w s w L)) sv)) : wpX_backup post (nI L, f2, s, w, sS, sW, mk, sv) := by
  have g : ∀ d i, i + d = 16 → wX_backup_4 post (nI L) f2 (d + 1) (ic_s (ic_b mk) i) (nI i) s w sS sW (ic_rg 0 i (fun _ => 0) mk) (ic_rg 0 i (ic_sv mk sv (ic_w s w L)) sv) := by
    intro d
    induction d with
    | zero =>
      intro i hi
      obtain rfl : i = 16 := by omega
      exact br_t ic_16t h
    | succ d ih =>
      intro i hi
      have hin : vp_in (nI i) 16 := vp_in_nI (by omega) (by decide)
      have g := ih (i + 1) (by omega)
      refine br_f (ic_16f (by omega)) ⟨hin, br_c (fun z y ey => ?_) fun z => ?_⟩
      · rw [nI_clamp (by omega), ic_rg_out (by omega)] at z
        rw [← ic_rg_k (p := fun _ => 0) z.symm, ← ic_rg_k (p := ic_sv mk sv (ic_w s w L)) (ic_sv0 z)] at g
        rw [ey, nI_1, ic_s_k (ic_b0 z)]
        exact g
      · rw [nI_clamp (by omega), ic_rg_out (by omega)] at z
        refine ic_Xwp hL (by omega) ⟨hin, fun v1 e1 => ⟨hin, fun m1 e2 y ey q eq => ?_⟩⟩
        rw [nI_clamp (by omega), ic_rg_st (by omega) (ic_sv1 z).symm] at e1
        rw [nI_clamp (by omega), ic_n0, ic_rg_st (by omega) rfl] at e2
        rw [ey, eq, nI_1, e1, e2, ic_s_1 (ic_b1 z)]
        exact g
  have g0 := g 16 0 (by omega)
  rw [ic_rg_0, ic_rg_0] at g0
  exact ⟨_, g0⟩
theorem ic_Xbeh {post : Int32 → Prop} {L : Nat} (hL : L ≤ 4) (h : post (ic_D (ic_w s w L) sv)) : wpX_behind post (nI L, f2, s, w, sS, sW, mk, sv) := by
  have g : ∀ d i, i + d = 16 → wX_behind_4 post (nI L) f2 s w sS sW mk sv (d + 1) (ic_s (ic_d (ic_w s w L) sv) i) (nI i) := by
    intro d
    induction d with
    | zero =>
      intro i hi
      obtain rfl : i = 16 := by omega
      exact br_t ic_16t h
    | succ d ih =>
      intro i hi
      refine br_f (ic_16f (by omega)) (ic_Xwp hL (by omega) ⟨vp_in_nI (by omega) (by decide), br_c (fun z y ey => ?_) fun z y ey q eq => ?_⟩)
      · rw [nI_clamp (by omega)] at z
        rw [ey, nI_1, ic_s_k (ic_d0 z)]
        exact ih (i + 1) (by omega)
      · rw [nI_clamp (by omega)] at z
        rw [ey, eq, nI_1, ic_s_1 (ic_d1 z)]
        exact ih (i + 1) (by omega)
  exact ⟨_, g 16 0 (by omega)⟩
theorem ic_Xdig {post : Int32 → Prop} {L : Nat} (hL : L ≤ 4) (h : post (ic_s (fun k => (nI k + 1) * ic_w s w L k) 16)) : wpX_digest post (nI L, f2, s, w, sS, sW, mk, sv) := by
  have g : ∀ d i, i + d = 16 → wX_digest_4 post (nI L) f2 s w sS sW mk sv (d + 1) (ic_s (fun k => (nI k + 1) * ic_w s w L k) i) (nI i) := by
    intro d
    induction d with
    | zero =>
      intro i hi
      obtain rfl : i = 16 := by omega
      exact br_t ic_16t h
    | succ d ih =>
      intro i hi
      refine br_f (ic_16f (by omega)) (ic_Xwp hL (by omega) ?_)
      intro y ey q eq
      rw [eq, nI_1 i, ey]
      exact ih (i + 1) (by omega)
  exact ⟨_, g 16 0 (by omega)⟩
end
