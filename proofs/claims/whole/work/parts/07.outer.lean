/-! the methods at their own names, with a general post -/
section
variable {f1 f2 : Int32} {s w sS sW S W mk sv bf : Nat → Int32}
theorem ic_X_fill {post : Int32 → SX → Prop} {l a D : Nat} {x : Int32} (hl : l ≤ 3) (hD : D < 16) (ha : a ≤ D)
    (h : post (ic_D (ic_w s w (l + 1)) (ic_w (ic_rg (16 * l + a) (16 * l + (D + 1)) (fun _ => 1) s) (ic_rg (16 * l + a) (16 * l + (D + 1)) (fun _ => x) w) (l + 1)))
      (nI (l + 1), f2, ic_rg (16 * l + a) (16 * l + (D + 1)) (fun _ => 1) s, ic_rg (16 * l + a) (16 * l + (D + 1)) (fun _ => x) w, sS, sW, ic_M (ic_w s w (l + 1)) (ic_w (ic_rg (16 * l + a) (16 * l + (D + 1)) (fun _ => 1) s) (ic_rg (16 * l + a) (16 * l + (D + 1)) (fun _ => x) w) (l + 1)) mk, sv)) :
    wpX_fill post (nI (l + 1), f2, s, w, sS, sW, mk, sv) (nI a) (nI D) x := by
  unfold wpX_fill
  refine ic_Xcy (by omega) (br_f ic_10 (ic_Xcy hD (br_f ic_10 (br_t (nI_le ha (by omega)) ?_))))
  exact ic_Xfill hl hD ha h
theorem ic_X_fill1 {post : Int32 → SX → Prop} {u : SX} {x y z : Int32} (hx : x < 0 ∨ (16 : Int32) ≤ x) (h : post (-1) u) : wpX_fill post u x y z := by
  unfold wpX_fill
  exact ic_Xcn hx (br_t rfl h)
theorem ic_X_fill2 {post : Int32 → SX → Prop} {u : SX} {a : Nat} {y z : Int32} (ha : a < 16) (hy : y < 0 ∨ (16 : Int32) ≤ y) (h : post (-1) u) : wpX_fill post u (nI a) y z := by
  unfold wpX_fill
  exact ic_Xcy ha (br_f ic_10 (ic_Xcn hy (br_t rfl h)))
theorem ic_X_fill3 {post : Int32 → SX → Prop} {u : SX} {a b : Nat} {z : Int32} (ha : a < 16) (hb : b < 16) (hab : b < a) (h : post (-1) u) : wpX_fill post u (nI a) (nI b) z := by
  unfold wpX_fill
  exact ic_Xcy ha (br_f ic_10 (ic_Xcy hb (br_f ic_10 (br_f (nI_ge hab (by omega)) h))))
theorem ic_Y_fill {post : Int32 → SY → Prop} {l a D : Nat} {x : Int32} (hl : l ≤ 3) (hD : D < 16) (ha : a ≤ D)
    (h : post (ic_D (ic_rg 0 16 (ic_w S W (l + 1)) bf) (ic_w (ic_rg (16 * l + a) (16 * l + (D + 1)) (fun _ => 1) S) (ic_rg (16 * l + a) (16 * l + (D + 1)) (fun _ => x) W) (l + 1)))
      (nI (l + 1), f2, ic_rg (16 * l + a) (16 * l + (D + 1)) (fun _ => 1) S, ic_rg (16 * l + a) (16 * l + (D + 1)) (fun _ => x) W, ic_M (ic_rg 0 16 (ic_w S W (l + 1)) bf) (ic_w (ic_rg (16 * l + a) (16 * l + (D + 1)) (fun _ => 1) S) (ic_rg (16 * l + a) (16 * l + (D + 1)) (fun _ => x) W) (l + 1)) mk, sv, ic_rg 0 16 (ic_w S W (l + 1)) bf)) :
    wpY_fill post (nI (l + 1), f2, S, W, mk, sv, bf) (nI a) (nI D) x := by
  unfold wpY_fill
  refine ic_Ycy (by omega) (br_f ic_10 (ic_Ycy hD (br_f ic_10 (br_t (nI_le ha (by omega)) (ic_Ynote (by omega) ?_)))))
  exact ic_Yfill hl hD ha h
theorem ic_Y_fill1 {post : Int32 → SY → Prop} {v : SY} {x y z : Int32} (hx : x < 0 ∨ (16 : Int32) ≤ x) (h : post (-1) v) : wpY_fill post v x y z := by
  unfold wpY_fill
  exact ic_Ycn hx (br_t rfl h)
theorem ic_Y_fill2 {post : Int32 → SY → Prop} {v : SY} {a : Nat} {y z : Int32} (ha : a < 16) (hy : y < 0 ∨ (16 : Int32) ≤ y) (h : post (-1) v) : wpY_fill post v (nI a) y z := by
  unfold wpY_fill
  exact ic_Ycy ha (br_f ic_10 (ic_Ycn hy (br_t rfl h)))
theorem ic_Y_fill3 {post : Int32 → SY → Prop} {v : SY} {a b : Nat} {z : Int32} (ha : a < 16) (hb : b < 16) (hab : b < a) (h : post (-1) v) : wpY_fill post v (nI a) (nI b) z := by
  unfold wpY_fill
  exact ic_Ycy ha (br_f ic_10 (ic_Ycy hb (br_f ic_10 (br_f (nI_ge hab (by omega)) h))))
theorem ic_X_write {post : Int32 → SX → Prop} {l c : Nat} {x : Int32} (hl : l ≤ 3) (hc : c < 16)
    (h : post (ic_D (ic_w s w (l + 1)) (ic_w (ic_rg (16 * l + c) (16 * l + (c + 1)) (fun _ => 1) s) (ic_rg (16 * l + c) (16 * l + (c + 1)) (fun _ => x) w) (l + 1)))
      (nI (l + 1), f2, ic_rg (16 * l + c) (16 * l + (c + 1)) (fun _ => 1) s, ic_rg (16 * l + c) (16 * l + (c + 1)) (fun _ => x) w, sS, sW, ic_M (ic_w s w (l + 1)) (ic_w (ic_rg (16 * l + c) (16 * l + (c + 1)) (fun _ => 1) s) (ic_rg (16 * l + c) (16 * l + (c + 1)) (fun _ => x) w) (l + 1)) mk, sv)) :
    wpX_write post (nI (l + 1), f2, s, w, sS, sW, mk, sv) (nI c) x := by
  unfold wpX_write
  exact ic_Xcy hc (br_f ic_10 (ic_Xput1 (p := fun _ => 1) (q := fun _ => x) hl hc rfl rfl (Or.inr rfl) h))
theorem ic_X_write1 {post : Int32 → SX → Prop} {u : SX} {x y : Int32} (hx : x < 0 ∨ (16 : Int32) ≤ x) (h : post (-1) u) : wpX_write post u x y := by
  unfold wpX_write
  exact ic_Xcn hx (br_t rfl h)
theorem ic_Y_write {post : Int32 → SY → Prop} {v : SY} {x y : Int32} (h : wpY_fill post v x x y) : wpY_write post v x y := by
  unfold wpY_write
  exact h
theorem ic_X_disc {post : Int32 → SX → Prop} {l c : Nat} (hl : l ≤ 3) (hc : c < 16)
    (h : post (ic_b (fun k => s (16 * l + k)) c)
      (nI (l + 1), f2, ic_rg (16 * l + c) (16 * l + (c + 1)) (fun _ => 0) s, ic_rg (16 * l + c) (16 * l + (c + 1)) (fun _ => 0) w, sS, sW, ic_M (ic_w s w (l + 1)) (ic_w (ic_rg (16 * l + c) (16 * l + (c + 1)) (fun _ => 0) s) (ic_rg (16 * l + c) (16 * l + (c + 1)) (fun _ => 0) w) (l + 1)) mk, sv)) :
    wpX_discard post (nI (l + 1), f2, s, w, sS, sW, mk, sv) (nI c) := by
  unfold wpX_discard
  exact ic_Xcy hc (br_f ic_10 (ic_Xclr1 hl hc h))
theorem ic_X_disc1 {post : Int32 → SX → Prop} {u : SX} {x : Int32} (hx : x < 0 ∨ (16 : Int32) ≤ x) (h : post (-1) u) : wpX_discard post u x := by
  unfold wpX_discard
  exact ic_Xcn hx (br_t rfl h)
theorem ic_Y_disc {post : Int32 → SY → Prop} {l c : Nat} (hl : l ≤ 3) (hc : c < 16)
    (h : post (ic_b (fun k => S (16 * l + k)) c)
      (nI (l + 1), f2, ic_rg (16 * l + c) (16 * l + (c + 1)) (fun _ => 0) S, W, ic_M (ic_rg 0 16 (ic_w S W (l + 1)) bf) (ic_w (ic_rg (16 * l + c) (16 * l + (c + 1)) (fun _ => 0) S) W (l + 1)) mk, sv, ic_rg 0 16 (ic_w S W (l + 1)) bf)) :
    wpY_discard post (nI (l + 1), f2, S, W, mk, sv, bf) (nI c) := by
  have hix : vp_in (16 * (nI (l + 1) - 1) + nI c) 128 := by
    rw [ic_iy1]
    exact vp_in_nI (by omega) (by decide)
  have e : upd S (16 * l + c) 0 = ic_rg (16 * l + c) (16 * l + (c + 1)) (fun _ => 0) S := by
    have g := ic_rg_st (lo := 16 * l + c) (n := 16 * l + c) (p := fun _ => 0) (g := S) (Nat.le_refl _) rfl
    rw [ic_rg_0] at g
    exact g
  unfold wpY_discard
  refine ic_Ycy hc (br_f ic_10 (ic_Ynote (by omega) ⟨hix, br_c (fun z => ?_) fun z => ?_⟩))
  · rw [ic_iy1, nI_clamp (by omega)] at z
    rw [ic_b0 (f := fun k => S (16 * l + k)) z] at h
    refine ⟨hix, fun s1 e1 => ?_⟩
    rw [ic_iy1, nI_clamp (by omega), ic_n0, e] at e1
    rw [e1]
    exact ic_Ychg (by omega) h
  · rw [ic_iy1, nI_clamp (by omega)] at z
    rw [ic_b1 (f := fun k => S (16 * l + k)) z] at h
    refine ⟨hix, fun s1 e1 => ?_⟩
    rw [ic_iy1, nI_clamp (by omega), ic_n0, e] at e1
    rw [e1]
    exact ic_Ychg (by omega) h
theorem ic_Y_disc1 {post : Int32 → SY → Prop} {v : SY} {x : Int32} (hx : x < 0 ∨ (16 : Int32) ≤ x) (h : post (-1) v) : wpY_discard post v x := by
  unfold wpY_discard
  exact ic_Ycn hx (br_t rfl h)
end
