/-! what is owed -/
theorem i_up {k : Nat} {u : SX} {v : SY} (h : i_Rel k u v) : i_Rel (k + 4) u v := h
theorem i_vc0 : wpX_init (fun u => wpY_init (fun v => i_Rel 0 u v)) :=
  ic_fin (k := 0) (l := 0) (t := 0) (by omega) (by omega) ⟨fun _ => Or.inl rfl, fun _ => Or.inl rfl, fun _ => Or.inl rfl, fun _ _ => rfl, fun _ _ => ⟨rfl, fun _ => rfl⟩, fun _ _ => ⟨rfl, fun _ => rfl⟩⟩ rfl rfl
theorem i_vc_write {k : Nat} {u : SX} {v : SY} (I : i_Rel k u v) (hk : k + 4 ≤ 2048) (v1 : Int32) (v2 : Int32) : wpX_write (fun r u' => wpY_write (fun r' v' => r' = r ∧ i_Rel (k + 4) u' v') v v1 v2) u v1 v2 := by
  rcases ic_cl v1 with hx | ⟨c, hc, rfl⟩
  · exact ic_X_write1 hx (ic_Y_write (ic_Y_fill1 hx ⟨rfl, I⟩))
  · obtain ⟨l, t, iS, iW, sS, sW, mk, sv, S, W, bf, hl, ht, H, rfl, rfl⟩ := I
    have H' := ic_R_put (a := c) (b := c + 1) (p := fun _ => 1) (q := fun _ => v2) (p' := fun _ => 1) (q' := fun _ => v2) H hl (by omega) (fun _ => Or.inr rfl) fun _ _ _ => ⟨rfl, fun _ => rfl⟩
    exact ic_X_write hl hc (ic_Y_write (ic_Y_fill hl hc (Nat.le_refl c) ⟨ic_R_D H H', ic_fin hl ht H' (ic_R_M H H') rfl⟩))
theorem i_vc_fill {k : Nat} {u : SX} {v : SY} (I : i_Rel k u v) (hk : k + 4 ≤ 2048) (v1 : Int32) (v2 : Int32) (v3 : Int32) : wpX_fill (fun r u' => wpY_fill (fun r' v' => r' = r ∧ i_Rel (k + 4) u' v') v v1 v2 v3) u v1 v2 v3 := by
  rcases ic_cl v1 with hx | ⟨a, ha, rfl⟩
  · exact ic_X_fill1 hx (ic_Y_fill1 hx ⟨rfl, I⟩)
  · rcases ic_cl v2 with hy | ⟨b, hb, rfl⟩
    · exact ic_X_fill2 ha hy (ic_Y_fill2 ha hy ⟨rfl, I⟩)
    · by_cases hab : b < a
      · exact ic_X_fill3 ha hb hab (ic_Y_fill3 ha hb hab ⟨rfl, I⟩)
      · obtain ⟨l, t, iS, iW, sS, sW, mk, sv, S, W, bf, hl, ht, H, rfl, rfl⟩ := I
        have H' := ic_R_put (a := a) (b := b + 1) (p := fun _ => 1) (q := fun _ => v3) (p' := fun _ => 1) (q' := fun _ => v3) H hl (by omega) (fun _ => Or.inr rfl) fun _ _ _ => ⟨rfl, fun _ => rfl⟩
        exact ic_X_fill hl hb (by omega) (ic_Y_fill hl hb (by omega) ⟨ic_R_D H H', ic_fin hl ht H' (ic_R_M H H') rfl⟩)
theorem i_vc_discard {k : Nat} {u : SX} {v : SY} (I : i_Rel k u v) (hk : k + 4 ≤ 2048) (v1 : Int32) : wpX_discard (fun r u' => wpY_discard (fun r' v' => r' = r ∧ i_Rel (k + 4) u' v') v v1) u v1 := by
  rcases ic_cl v1 with hx | ⟨c, hc, rfl⟩
  · exact ic_X_disc1 hx (ic_Y_disc1 hx ⟨rfl, I⟩)
  · obtain ⟨l, t, iS, iW, sS, sW, mk, sv, S, W, bf, hl, ht, H, rfl, rfl⟩ := I
    have H' := ic_R_put (a := c) (b := c + 1) (p := fun _ => 0) (q := fun _ => 0) (p' := fun _ => 0) (q' := W) H hl (by omega) (fun _ => Or.inl rfl) fun _ _ _ => ⟨rfl, fun z => absurd rfl z⟩
    rw [ic_rg_nop (p := W) (g := W) fun _ _ _ => rfl] at H'
    exact ic_X_disc hl hc (ic_Y_disc hl hc ⟨ic_b_cong (f := fun k => S (16 * l + k)) (g := fun k => iS (16 * l + k)) (H.2.2.2.2.1 (16 * l + c) (by omega)).1.symm, ic_fin hl ht H' (ic_R_M H H') rfl⟩)
theorem i_vc_read {k : Nat} {u : SX} {v : SY} (I : i_Rel k u v) (hk : k + 4 ≤ 2048) (v1 : Int32) : wpX_read (fun r => wpY_read (fun r' => r' = r ∧ i_Rel (k + 4) u v) v v1) u v1 := by
  have I' := I
  obtain ⟨l, t, iS, iW, sS, sW, mk, sv, S, W, bf, hl, ht, H, rfl, rfl⟩ := I
  unfold wpX_read wpY_read
  rcases ic_cl v1 with hx | ⟨c, hc, rfl⟩
  · exact ic_Xcn hx (br_t rfl (ic_Ycn hx (br_t rfl ⟨rfl, I'⟩)))
  · exact ic_Xcy hc (br_f ic_10 (ic_Xwp (by omega) hc (ic_Ycy hc (br_f ic_10 (ic_Ywp (by omega) hc ⟨(ic_R_w H (Nat.le_refl _) hc).symm, I'⟩)))))
theorem i_vc_said {k : Nat} {u : SX} {v : SY} (I : i_Rel k u v) (hk : k + 4 ≤ 2048) (v1 : Int32) : wpX_said (fun r => wpY_said (fun r' => r' = r ∧ i_Rel (k + 4) u v) v v1) u v1 := by
  have I' := I
  obtain ⟨l, t, iS, iW, sS, sW, mk, sv, S, W, bf, hl, ht, H, rfl, rfl⟩ := I
  unfold wpX_said wpY_said
  rcases ic_cl v1 with hx | ⟨c, hc, rfl⟩
  · exact ic_Xcn hx (br_t rfl (ic_Ycn hx (br_t rfl ⟨rfl, I'⟩)))
  · have hix : vp_in (nI (16 * l + c)) 64 := vp_in_nI (by omega) (by decide)
    have hiy : vp_in (16 * (nI (l + 1) - 1) + nI c) 128 := by
      rw [ic_iy1]
      exact vp_in_nI (by omega) (by decide)
    have e := (H.2.2.2.2.1 (16 * l + c) (by omega)).1
    refine ic_Xcy hc (br_f ic_10 (ic_Xtc ⟨hix, br_c (fun z => ?_) fun z => ?_⟩))
    · rw [nI_clamp (by omega), e] at z
      refine ic_Ycy hc (br_f ic_10 ⟨hiy, br_t ?_ ⟨rfl, I'⟩⟩)
      rw [ic_iy1, nI_clamp (by omega)]
      exact z
    · rw [nI_clamp (by omega), e] at z
      refine ic_Ycy hc (br_f ic_10 ⟨hiy, br_f ?_ ⟨rfl, I'⟩⟩)
      rw [ic_iy1, nI_clamp (by omega)]
      exact z
theorem i_vc_length {k : Nat} {u : SX} {v : SY} (I : i_Rel k u v) (hk : k + 4 ≤ 2048) : wpX_length (fun r => wpY_length (fun r' => r' = r ∧ i_Rel (k + 4) u v) v) u := by
  have I' := I
  obtain ⟨l, t, iS, iW, sS, sW, mk, sv, S, W, bf, hl, ht, H, rfl, rfl⟩ := I
  exact ⟨rfl, I'⟩
theorem i_vc_overlay {k : Nat} {u : SX} {v : SY} (I : i_Rel k u v) (hk : k + 4 ≤ 2048) : wpX_overlay (fun r u' => wpY_overlay (fun r' v' => r' = r ∧ i_Rel (k + 4) u' v') v) u := by
  have I' := I
  obtain ⟨l, t, iS, iW, sS, sW, mk, sv, S, W, bf, hl, ht, H, rfl, rfl⟩ := I
  by_cases h4 : l = 3
  · subst h4
    exact br_f (by decide) (br_t rfl ⟨rfl, I'⟩)
  · have hlt : nI (l + 1) < 4 := nI_lt (b := 4) (by omega) (by decide)
    have hne : ¬ nI (l + 1) = 4 := fun z => h4 (by have := (nI_eq (b := 4) (by omega) (by decide)).mp z; omega)
    by_cases h0 : t = 0
    · subst h0
      refine br_t hlt (br_t (nI_le (a := 0) (b := 0) (by omega) (by decide)) fun y ey => ?_)
      rw [ey, nI_1]
      exact br_f hne (br_t (nI_le (a := 0) (b := 0) (by omega) (by decide)) (ic_Yover (by omega) ⟨rfl, ic_fin (by omega) ht (ic_R_over H (by omega)) rfl rfl⟩))
    · have hn : ¬ nI t ≤ 0 := nI_nle (by omega) (by omega)
      exact br_t hlt (br_f hn (br_f hne (br_f hn ⟨rfl, I'⟩)))
theorem i_vc_commit {k : Nat} {u : SX} {v : SY} (I : i_Rel k u v) (hk : k + 4 ≤ 2048) : wpX_commit (fun r u' => wpY_commit (fun r' v' => r' = r ∧ i_Rel (k + 4) u' v') v) u := by
  have I' := I
  obtain ⟨l, t, iS, iW, sS, sW, mk, sv, S, W, bf, hl, ht, H, rfl, rfl⟩ := I
  cases l with
  | zero => exact br_t (nI_le (a := 1) (b := 1) (by omega) (by decide)) (br_t rfl ⟨rfl, I'⟩)
  | succ m =>
    have h1 : ¬ nI (m + 1 + 1) ≤ 1 := nI_ge (a := 1) (by omega) (by omega)
    have h2 : ¬ nI (m + 1 + 1) = 1 := fun z => by have := (nI_eq (b := 1) (by omega) (by decide)).mp z; omega
    by_cases h0 : t = 0
    · subst h0
      have hz : nI 0 ≤ 0 := nI_le (a := 0) (b := 0) (by omega) (by decide)
      refine br_f h1 (br_t hz (ic_Xmrg (by omega) ?_))
      refine br_f h2 (br_t hz fun x ex => ?_)
      rw [ex, nI_pred]
      exact ic_Ycom (by omega) ⟨ic_R_said H, ic_fin (by omega) ht (ic_R_mrg H (by omega)) rfl rfl⟩
    · have hn : ¬ nI t ≤ 0 := nI_nle (by omega) (by omega)
      exact br_f h1 (br_f hn (br_f h2 (br_f hn ⟨rfl, I'⟩)))
theorem i_vc_abandon {k : Nat} {u : SX} {v : SY} (I : i_Rel k u v) (hk : k + 4 ≤ 2048) : wpX_abandon (fun r u' => wpY_abandon (fun r' v' => r' = r ∧ i_Rel (k + 4) u' v') v) u := by
  have I' := I
  obtain ⟨l, t, iS, iW, sS, sW, mk, sv, S, W, bf, hl, ht, H, rfl, rfl⟩ := I
  cases l with
  | zero => exact br_t (nI_le (a := 1) (b := 1) (by omega) (by decide)) (br_t rfl ⟨rfl, I'⟩)
  | succ m =>
    have h1 : ¬ nI (m + 1 + 1) ≤ 1 := nI_ge (a := 1) (by omega) (by omega)
    have h2 : ¬ nI (m + 1 + 1) = 1 := fun z => by have := (nI_eq (b := 1) (by omega) (by decide)).mp z; omega
    by_cases h0 : t = 0
    · subst h0
      have hz : nI 0 ≤ 0 := nI_le (a := 0) (b := 0) (by omega) (by decide)
      refine br_f h1 (br_t hz (ic_Xaban (by omega) ?_))
      refine br_f h2 (br_t hz (ic_Ynote (by omega) ?_))
      intro x ex
      rw [ex, nI_pred]
      refine ic_Ychg (by omega) (ic_Ycs rfl (by omega) ⟨ic_R_said H, ic_fin (by omega) ht (ic_R_aban H) ?_ rfl⟩)
      exact ic_M_cong fun k hk => ⟨(ic_rg_in (by omega) hk).trans (ic_R_w H (Nat.le_refl _) hk).symm, (ic_R_w H (by omega) hk).symm.trans (ic_w_aban hk).symm⟩
    · have hn : ¬ nI t ≤ 0 := nI_nle (by omega) (by omega)
      exact br_f h1 (br_f hn (br_f h2 (br_f hn ⟨rfl, I'⟩)))
theorem i_vc_pull {k : Nat} {u : SX} {v : SY} (I : i_Rel k u v) (hk : k + 4 ≤ 2048) : wpX_pull (fun r u' => wpY_pull (fun r' v' => r' = r ∧ i_Rel (k + 4) u' v') v) u := by
  have I' := I
  obtain ⟨l, t, iS, iW, sS, sW, mk, sv, S, W, bf, hl, ht, H, rfl, rfl⟩ := I
  cases l with
  | zero => exact br_f (nI_nlt (a := 1) (b := 1) (by omega) (by decide)) (br_t rfl ⟨rfl, I'⟩)
  | succ m =>
    have h1 : 1 < nI (m + 1 + 1) := nI_lt (a := 1) (by omega) (by omega)
    have h2 : ¬ nI (m + 1 + 1) = 1 := fun z => by have := (nI_eq (b := 1) (by omega) (by decide)).mp z; omega
    refine br_t h1 (ic_Xmrg (by omega) ?_)
    refine br_f h2 fun x ex => ?_
    rw [ex, nI_pred]
    exact ic_Ypull (by omega) ⟨rfl, ic_fin (by omega) ht (ic_R_mrg H (by omega)) rfl rfl⟩
theorem i_vc_snapshot {k : Nat} {u : SX} {v : SY} (I : i_Rel k u v) (hk : k + 4 ≤ 2048) : wpX_snapshot (fun r u' => wpY_snapshot (fun r' v' => r' = r ∧ i_Rel (k + 4) u' v') v) u := by
  have I' := I
  obtain ⟨l, t, iS, iW, sS, sW, mk, sv, S, W, bf, hl, ht, H, rfl, rfl⟩ := I
  by_cases h4 : t = 4
  · subst h4
    exact br_f (by decide) (br_t rfl ⟨rfl, I'⟩)
  · have hlt : nI t < 4 := nI_lt (b := 4) (by omega) (by decide)
    have hne : ¬ nI t = 4 := fun z => h4 ((nI_eq (b := 4) (by omega) (by decide)).mp z)
    refine br_t hlt (ic_Xsnap hl (by omega) H.1 ?_)
    refine br_f hne (ic_Ycopy (x := l) (y := 4 + t) (nI_pred l) (nI_add 4 t) (by omega) (by omega) (by omega) H.2.2.1 ?_)
    intro x ex
    rw [ex, nI_1]
    exact ⟨nI_pred t, ic_fin hl (by omega) (ic_R_snap H hl) rfl rfl⟩
theorem i_vc_revert {k : Nat} {u : SX} {v : SY} (I : i_Rel k u v) (hk : k + 4 ≤ 2048) (v1 : Int32) : wpX_revert (fun r u' => wpY_revert (fun r' v' => r' = r ∧ i_Rel (k + 4) u' v') v v1) u v1 := by
  have I' := I
  obtain ⟨l, t, iS, iW, sS, sW, mk, sv, S, W, bf, hl, ht, H, rfl, rfl⟩ := I
  unfold wpX_revert wpY_revert
  rcases ic_sn v1 ht with hx | ⟨r, hr, rfl⟩
  · exact ic_Xsn hx (br_t rfl (ic_Ysn hx (br_t rfl ⟨rfl, I'⟩)))
  · have H' := ic_R_put (a := 0) (b := 16) (p := fun j => sS (j - 16 * l + 16 * r)) (q := fun j => sW (j - 16 * l + 16 * r)) (p' := fun j => S (j - 16 * l + 16 * (4 + r))) (q' := fun j => W (j - 16 * l + 16 * (4 + r))) H hl (by omega) (fun j => H.2.1 _) fun j h1 h2 => by
      have g := H.2.2.2.2.2 (j - 16 * l + 16 * r) (by omega)
      rw [show 64 + (j - 16 * l + 16 * r) = j - 16 * l + 16 * (4 + r) by omega] at g
      exact g
    refine ic_Xsy hr ht (br_f ic_10 (ic_Xrev hl (by omega) H.2.1 ?_))
    refine ic_Ysy hr ht (br_f ic_10 (ic_Ynote (by omega) ?_))
    refine ic_Ycopy (x := 4 + r) (y := l) (nI_add 4 r) (nI_pred l) (by omega) (by omega) (by omega) H.2.2.1 ?_
    exact ic_Ychg (by omega) ⟨ic_R_D H H', ic_fin hl ht H' (ic_R_M H H') rfl⟩
theorem i_vc_forget {k : Nat} {u : SX} {v : SY} (I : i_Rel k u v) (hk : k + 4 ≤ 2048) (v1 : Int32) : wpX_forget (fun r u' => wpY_forget (fun r' v' => r' = r ∧ i_Rel (k + 4) u' v') v v1) u v1 := by
  have I' := I
  obtain ⟨l, t, iS, iW, sS, sW, mk, sv, S, W, bf, hl, ht, H, rfl, rfl⟩ := I
  unfold wpX_forget wpY_forget
  rcases ic_sn v1 ht with hx | ⟨r, hr, rfl⟩
  · exact ic_Xsn hx (br_t rfl (ic_Ysn hx (br_t rfl ⟨rfl, I'⟩)))
  · cases t with
    | zero => exact absurd hr (Nat.not_lt_zero r)
    | succ t =>
      refine ic_Xsy hr ht (br_f ic_10 ?_)
      intro x ex y ey
      have ey' : y = nI (16 * r) := ey.trans ((pk_mul r 16).trans (congrArg nI (Nat.mul_comm r 16)))
      rw [ex, ey', nI_pred]
      refine ic_Xforg (by omega) (by omega) H.2.1 ?_
      refine ic_Ysy hr ht (br_f ic_10 (ic_Yforg (by omega) (by omega) H.2.2.1 ⟨rfl, ic_fin hl (by omega) (ic_R_forg H hl) rfl rfl⟩))
theorem i_vc_snapshots {k : Nat} {u : SX} {v : SY} (I : i_Rel k u v) (hk : k + 4 ≤ 2048) : wpX_snapshots (fun r => wpY_snapshots (fun r' => r' = r ∧ i_Rel (k + 4) u v) v) u := by
  have I' := I
  obtain ⟨l, t, iS, iW, sS, sW, mk, sv, S, W, bf, hl, ht, H, rfl, rfl⟩ := I
  exact ⟨rfl, I'⟩
theorem i_vc_peek {k : Nat} {u : SX} {v : SY} (I : i_Rel k u v) (hk : k + 4 ≤ 2048) (v1 : Int32) (v2 : Int32) : wpX_peek (fun r => wpY_peek (fun r' => r' = r ∧ i_Rel (k + 4) u v) v v1 v2) u v1 v2 := by
  have I' := I
  obtain ⟨l, t, iS, iW, sS, sW, mk, sv, S, W, bf, hl, ht, H, rfl, rfl⟩ := I
  unfold wpX_peek wpY_peek
  rcases ic_sn v1 ht with hx | ⟨r, hr, rfl⟩
  · exact ic_Xsn hx (br_t rfl (ic_Ysn hx (br_t rfl ⟨rfl, I'⟩)))
  · rcases ic_cl v2 with hy | ⟨c, hc, rfl⟩
    · exact ic_Xsy hr ht (br_f ic_10 (ic_Xcn hy (br_t rfl (ic_Ysy hr ht (br_f ic_10 (ic_Ycn hy (br_t rfl ⟨rfl, I'⟩)))))))
    · have hix : vp_in (nI (16 * r + c)) 64 := vp_in_nI (by omega) (by decide)
      have ei : 16 * (4 + nI r) + nI c = nI (64 + (16 * r + c)) := by
        show 16 * (nI 4 + nI r) + nI c = _
        rw [nI_add, ic_iy]
        exact congrArg nI (by omega)
      have hiy : vp_in (16 * (4 + nI r) + nI c) 128 := by
        rw [ei]
        exact vp_in_nI (by omega) (by decide)
      obtain ⟨e1, e2⟩ := H.2.2.2.2.2 (16 * r + c) (by omega)
      refine ic_Xsy hr ht (br_f ic_10 (ic_Xcy hc (br_f ic_10 ?_)))
      intro x ex
      rw [ic_ix] at ex
      subst ex
      refine ⟨hix, br_c (fun z => ?_) fun z => ⟨hix, ?_⟩⟩
      · rw [nI_clamp (by omega)] at z
        rw [nI_pred]
        refine ic_Xwp (by omega) hc (ic_Ysy hr ht (br_f ic_10 (ic_Ycy hc (br_f ic_10 ⟨hiy, br_t ?_ ?_⟩))))
        · rw [ei, nI_clamp (by omega), ← e1]
          exact z
        · rw [nI_pred]
          exact ic_Ywp (by omega) hc ⟨(ic_R_w H (by omega) hc).symm, I'⟩
      · rw [nI_clamp (by omega)] at z
        refine ic_Ysy hr ht (br_f ic_10 (ic_Ycy hc (br_f ic_10 ⟨hiy, br_f ?_ ⟨hiy, ?_, I'⟩⟩)))
        · rw [ei, nI_clamp (by omega), ← e1]
          exact z
        · rw [ei, nI_clamp (by omega), nI_clamp (by omega)]
          exact (e2 z).symm
theorem i_vc_marked {k : Nat} {u : SX} {v : SY} (I : i_Rel k u v) (hk : k + 4 ≤ 2048) : wpX_marked (fun r => wpY_marked (fun r' => r' = r ∧ i_Rel (k + 4) u v) v) u := by
  have I' := I
  obtain ⟨l, t, iS, iW, sS, sW, mk, sv, S, W, bf, hl, ht, H, rfl, rfl⟩ := I
  exact ic_Xmark (ic_Ymark ⟨rfl, I'⟩)
theorem i_vc_backup {k : Nat} {u : SX} {v : SY} (I : i_Rel k u v) (hk : k + 4 ≤ 2048) : wpX_backup (fun r u' => wpY_backup (fun r' v' => r' = r ∧ i_Rel (k + 4) u' v') v) u := by
  obtain ⟨l, t, iS, iW, sS, sW, mk, sv, S, W, bf, hl, ht, H, rfl, rfl⟩ := I
  refine ic_Xback (by omega) ?_
  unfold wpY_backup
  refine ic_Ymark (ic_Yback (by omega) ⟨rfl, ic_fin hl ht H rfl ?_⟩)
  refine ic_rg_cong fun k _ hk => ?_
  by_cases z : mk k = 0
  · rw [ic_sv0 z, ic_sv0 z]
  · rw [ic_sv1 z, ic_sv1 z]
    exact (ic_R_w H (Nat.le_refl _) hk).symm
theorem i_vc_saved {k : Nat} {u : SX} {v : SY} (I : i_Rel k u v) (hk : k + 4 ≤ 2048) (v1 : Int32) : wpX_saved (fun r => wpY_saved (fun r' => r' = r ∧ i_Rel (k + 4) u v) v v1) u v1 := by
  have I' := I
  obtain ⟨l, t, iS, iW, sS, sW, mk, sv, S, W, bf, hl, ht, H, rfl, rfl⟩ := I
  unfold wpX_saved wpY_saved
  rcases ic_cl v1 with hx | ⟨c, hc, rfl⟩
  · exact ic_Xcn hx (br_t rfl (ic_Ycn hx (br_t rfl ⟨rfl, I'⟩)))
  · have hi : vp_in (nI c) 16 := vp_in_nI hc (by decide)
    exact ic_Xcy hc (br_f ic_10 ⟨hi, ic_Ycy hc (br_f ic_10 ⟨hi, rfl, I'⟩)⟩)
theorem i_vc_behind {k : Nat} {u : SX} {v : SY} (I : i_Rel k u v) (hk : k + 4 ≤ 2048) : wpX_behind (fun r => wpY_behind (fun r' => r' = r ∧ i_Rel (k + 4) u v) v) u := by
  have I' := I
  obtain ⟨l, t, iS, iW, sS, sW, mk, sv, S, W, bf, hl, ht, H, rfl, rfl⟩ := I
  refine ic_Xbeh (by omega) (ic_Ybeh (by omega) ⟨?_, I'⟩)
  rw [ic_D_comm]
  exact ic_D_cong fun k hk => ⟨(ic_R_w H (Nat.le_refl _) hk).symm, rfl⟩
theorem i_vc_check {k : Nat} {u : SX} {v : SY} (I : i_Rel k u v) (hk : k + 4 ≤ 2048) : wpX_check (fun r => wpY_check (fun r' => r' = r ∧ i_Rel (k + 4) u v) v) u := by
  have I' := I
  obtain ⟨l, t, iS, iW, sS, sW, mk, sv, S, W, bf, hl, ht, H, rfl, rfl⟩ := I
  exact ⟨rfl, I'⟩
theorem i_vc_digest {k : Nat} {u : SX} {v : SY} (I : i_Rel k u v) (hk : k + 4 ≤ 2048) : wpX_digest (fun r => wpY_digest (fun r' => r' = r ∧ i_Rel (k + 4) u v) v) u := by
  have I' := I
  obtain ⟨l, t, iS, iW, sS, sW, mk, sv, S, W, bf, hl, ht, H, rfl, rfl⟩ := I
  refine ic_Xdig (by omega) (ic_Ydig (by omega) ⟨?_, I'⟩)
  exact ic_s_cong 16 fun k hk => congrArg (fun z => (nI k + 1) * z) (ic_R_w H (Nat.le_refl _) hk).symm
