/-! the relation, and what a change of both sides leaves of it -/
section
variable {l t : Nat} {iS iW sS sW S W mk sv bf : Nat → Int32}
/-- l + 1 images, t snapshots: both sides say the same, and where they say a word it is the same; the component's images above the top say nothing -/
def ic_R (l t : Nat) (iS iW sS sW S W : Nat → Int32) : Prop :=
  (∀ j, iS j = 0 ∨ iS j = 1) ∧ (∀ j, sS j = 0 ∨ sS j = 1) ∧ (∀ j, S j = 0 ∨ S j = 1) ∧
  (∀ j, 16 * (l + 1) ≤ j → iS j = 0) ∧
  (∀ j, j < 16 * (l + 1) → iS j = S j ∧ (iS j ≠ 0 → iW j = W j)) ∧
  (∀ j, j < 16 * t → sS j = S (64 + j) ∧ (sS j ≠ 0 → sW j = W (64 + j)))
/-- the relation at the head of a turn -/
def i_Rel (k : Nat) (u : SX) (v : SY) : Prop :=
  ∃ (l t : Nat) (iS iW sS sW mk sv S W bf : Nat → Int32), l ≤ 3 ∧ t ≤ 4 ∧ ic_R l t iS iW sS sW S W ∧ u = (nI (l + 1), nI t, iS, iW, sS, sW, mk, sv) ∧ v = (nI (l + 1), nI t, S, W, mk, sv, bf)
theorem ic_fin {k : Nat} {mk' sv' : Nat → Int32} (hl : l ≤ 3) (ht : t ≤ 4) (H : ic_R l t iS iW sS sW S W) (e1 : mk' = mk) (e2 : sv' = sv) : i_Rel k (nI (l + 1), nI t, iS, iW, sS, sW, mk, sv) (nI (l + 1), nI t, S, W, mk', sv', bf) := by
  subst e1 e2
  exact ⟨l, t, iS, iW, sS, sW, mk', sv', S, W, bf, hl, ht, H, rfl, rfl⟩
theorem ic_R_w (H : ic_R l t iS iW sS sW S W) {L k : Nat} (hL : L ≤ l + 1) (hk : k < 16) : ic_w iS iW L k = ic_w S W L k :=
  ic_w_cong L fun i hi => H.2.2.2.2.1 (16 * i + k) (by omega)
theorem ic_R_put {a b : Nat} {p q p' q' : Nat → Int32} (H : ic_R l t iS iW sS sW S W) (hl : l ≤ 3) (hb : b ≤ 16) (h01 : ∀ j, p j = 0 ∨ p j = 1)
    (hp : ∀ j, 16 * l + a ≤ j → j < 16 * l + b → p j = p' j ∧ (p j ≠ 0 → q j = q' j)) :
    ic_R l t (ic_rg (16 * l + a) (16 * l + b) p iS) (ic_rg (16 * l + a) (16 * l + b) q iW) sS sW (ic_rg (16 * l + a) (16 * l + b) p' S) (ic_rg (16 * l + a) (16 * l + b) q' W) := by
  obtain ⟨h1, h2, h3, h4, h5, h6⟩ := H
  refine ⟨ic_rg_01 (fun j _ _ => h01 j) h1, h2, ic_rg_01 (fun j a b => by rw [← (hp j a b).1]; exact h01 j) h3, fun j hj => ?_, fun j hj => ?_, fun j hj => ?_⟩
  · rw [ic_rg_out (by omega)]
    exact h4 j hj
  · by_cases h : 16 * l + a ≤ j ∧ j < 16 * l + b
    · rw [ic_rg_in h.1 h.2, ic_rg_in h.1 h.2, ic_rg_in h.1 h.2, ic_rg_in h.1 h.2]
      exact hp j h.1 h.2
    · rw [ic_rg_out (by omega), ic_rg_out (by omega), ic_rg_out (by omega), ic_rg_out (by omega)]
      exact h5 j hj
  · rw [ic_rg_out (by omega), ic_rg_out (by omega)]
    exact h6 j hj
theorem ic_R_M {t' : Nat} {iS' iW' sS' sW' S' W' : Nat → Int32} (H : ic_R l t iS iW sS sW S W) (H' : ic_R l t' iS' iW' sS' sW' S' W') : ic_M (ic_rg 0 16 (ic_w S W (l + 1)) bf) (ic_w S' W' (l + 1)) mk = ic_M (ic_w iS iW (l + 1)) (ic_w iS' iW' (l + 1)) mk :=
  ic_M_cong fun k hk => ⟨(ic_rg_in (by omega) hk).trans (ic_R_w H (Nat.le_refl _) hk).symm, (ic_R_w H' (Nat.le_refl _) hk).symm⟩
theorem ic_R_D {t' : Nat} {iS' iW' sS' sW' S' W' : Nat → Int32} (H : ic_R l t iS iW sS sW S W) (H' : ic_R l t' iS' iW' sS' sW' S' W') : ic_D (ic_rg 0 16 (ic_w S W (l + 1)) bf) (ic_w S' W' (l + 1)) = ic_D (ic_w iS iW (l + 1)) (ic_w iS' iW' (l + 1)) :=
  ic_D_cong fun k hk => ⟨(ic_rg_in (by omega) hk).trans (ic_R_w H (Nat.le_refl _) hk).symm, (ic_R_w H' (Nat.le_refl _) hk).symm⟩
theorem ic_R_said (H : ic_R l t iS iW sS sW S W) : ic_s (ic_b (fun k => S (16 * l + k))) 16 = ic_s (ic_b (fun k => iS (16 * l + k))) 16 :=
  ic_s_cong 16 fun k hk => ic_b_cong (H.2.2.2.2.1 (16 * l + k) (by omega)).1.symm
/-- overlay -/
theorem ic_R_over (H : ic_R l t iS iW sS sW S W) (hl : l ≤ 2) : ic_R (l + 1) t iS iW sS sW (ic_rg (16 * (l + 1)) (16 * (l + 1) + 16) (fun _ => 0) S) W := by
  obtain ⟨h1, h2, h3, h4, h5, h6⟩ := H
  refine ⟨h1, h2, ic_rg_01 (fun j _ _ => Or.inl rfl) h3, fun j hj => h4 j (by omega), fun j hj => ?_, fun j hj => ?_⟩
  · by_cases h : 16 * (l + 1) ≤ j
    · rw [ic_rg_in h (by omega), h4 j h]
      exact ⟨rfl, fun z => absurd rfl z⟩
    · rw [ic_rg_out (by omega)]
      exact h5 j (by omega)
  · rw [ic_rg_out (by omega)]
    exact h6 j hj
/-- commit and pull -/
theorem ic_R_mrg {m : Nat} (H : ic_R (m + 1) t iS iW sS sW S W) (hm : m ≤ 2) : ic_R m t (ic_rg (16 * (m + 1)) (16 * (m + 1) + 16) (fun _ => 0) (ic_rg (16 * m) (16 * m + 16) (ic_ps iS) iS)) (ic_rg (16 * m) (16 * m + 16) (ic_pw iS iW) iW) sS sW (ic_rg (16 * m) (16 * m + 16) (ic_ps S) S) (ic_rg (16 * m) (16 * m + 16) (ic_pw S W) W) := by
  obtain ⟨h1, h2, h3, h4, h5, h6⟩ := H
  have hps : ∀ G : Nat → Int32, (∀ j, G j = 0 ∨ G j = 1) → ∀ j, ic_ps G j = 0 ∨ ic_ps G j = 1 := by
    intro G hG j
    by_cases z : G (j + 16) = 0
    · rw [ic_ps0 z]
      exact hG j
    · rw [ic_ps1 z]
      exact Or.inr rfl
  refine ⟨ic_rg_01 (fun j _ _ => Or.inl rfl) (ic_rg_01 (fun j _ _ => hps iS h1 j) h1), h2, ic_rg_01 (fun j _ _ => hps S h3 j) h3, fun j hj => ?_, fun j hj => ?_, fun j hj => ?_⟩
  · by_cases h : j < 16 * (m + 1) + 16
    · rw [ic_rg_in hj h]
    · rw [ic_rg_out (by omega), ic_rg_out (by omega)]
      exact h4 j (by omega)
  · rw [ic_rg_out (by omega)]
    by_cases h : 16 * m ≤ j
    · rw [ic_rg_in h (by omega), ic_rg_in h (by omega), ic_rg_in h (by omega), ic_rg_in h (by omega)]
      obtain ⟨a1, a2⟩ := h5 j (by omega)
      obtain ⟨b1, b2⟩ := h5 (j + 16) (by omega)
      by_cases z : iS (j + 16) = 0
      · rw [ic_ps0 z, ic_ps0 (b1 ▸ z), ic_pw0 z, ic_pw0 (b1 ▸ z)]
        exact ⟨a1, a2⟩
      · rw [ic_ps1 z, ic_ps1 (b1 ▸ z), ic_pw1 z, ic_pw1 (b1 ▸ z)]
        exact ⟨rfl, fun _ => b2 z⟩
    · rw [ic_rg_out (by omega), ic_rg_out (by omega), ic_rg_out (by omega), ic_rg_out (by omega)]
      exact h5 j (by omega)
  · rw [ic_rg_out (by omega), ic_rg_out (by omega)]
    exact h6 j hj
/-- abandon -/
theorem ic_R_aban {m : Nat} (H : ic_R (m + 1) t iS iW sS sW S W) : ic_R m t (ic_rg (16 * (m + 1) + 0) (16 * (m + 1) + 16) (fun _ => 0) iS) (ic_rg (16 * (m + 1) + 0) (16 * (m + 1) + 16) (fun _ => 0) iW) sS sW S W := by
  obtain ⟨h1, h2, h3, h4, h5, h6⟩ := H
  refine ⟨ic_rg_01 (fun j _ _ => Or.inl rfl) h1, h2, h3, fun j hj => ?_, fun j hj => ?_, h6⟩
  · by_cases h : j < 16 * (m + 1) + 16
    · exact ic_rg_in (by omega) h
    · rw [ic_rg_out (by omega)]
      exact h4 j (by omega)
  · rw [ic_rg_out (by omega), ic_rg_out (by omega)]
    exact h5 j (by omega)
theorem ic_w_aban {l k : Nat} {s w : Nat → Int32} (hk : k < 16) : ic_w (ic_rg (16 * l + 0) (16 * l + 16) (fun _ => 0) s) (ic_rg (16 * l + 0) (16 * l + 16) (fun _ => 0) w) (l + 1) k = ic_w s w l k := by
  rw [ic_w0 (ic_rg_in (by omega) (by omega))]
  exact ic_w_cong l fun i hi => ⟨ic_rg_out (by omega), fun _ => ic_rg_out (by omega)⟩
/-- snapshot -/
theorem ic_R_snap (H : ic_R l t iS iW sS sW S W) (hl : l ≤ 3) : ic_R l (t + 1) iS iW (ic_rg (16 * t) (16 * t + 16) (fun j => iS (j - 16 * t + 16 * l)) sS) (ic_rg (16 * t) (16 * t + 16) (fun j => iW (j - 16 * t + 16 * l)) sW)
    (ic_rg (16 * (4 + t)) (16 * (4 + t) + 16) (fun j => S (j - 16 * (4 + t) + 16 * l)) S) (ic_rg (16 * (4 + t)) (16 * (4 + t) + 16) (fun j => W (j - 16 * (4 + t) + 16 * l)) W) := by
  obtain ⟨h1, h2, h3, h4, h5, h6⟩ := H
  refine ⟨h1, ic_rg_01 (fun j _ _ => h1 _) h2, ic_rg_01 (fun j _ _ => h3 _) h3, h4, fun j hj => ?_, fun j hj => ?_⟩
  · rw [ic_rg_out (by omega), ic_rg_out (by omega)]
    exact h5 j hj
  · by_cases h : 16 * t ≤ j
    · rw [ic_rg_in h (by omega), ic_rg_in h (by omega), ic_rg_in (j := 64 + j) (by omega) (by omega), ic_rg_in (j := 64 + j) (by omega) (by omega)]
      rw [show 64 + j - 16 * (4 + t) + 16 * l = j - 16 * t + 16 * l by omega]
      exact h5 (j - 16 * t + 16 * l) (by omega)
    · rw [ic_rg_out (by omega), ic_rg_out (by omega), ic_rg_out (by omega), ic_rg_out (by omega)]
      exact h6 j (by omega)
/-- forget -/
theorem ic_R_forg {r : Nat} (H : ic_R l (t + 1) iS iW sS sW S W) (hl : l ≤ 3) : ic_R l t iS iW (ic_rg (16 * r) (16 * t) (fun j => sS (j + 16)) sS) (ic_rg (16 * r) (16 * t) (fun j => sW (j + 16)) sW)
    (ic_rg (64 + 16 * r) (64 + 16 * t) (fun j => S (j + 16)) S) (ic_rg (64 + 16 * r) (64 + 16 * t) (fun j => W (j + 16)) W) := by
  obtain ⟨h1, h2, h3, h4, h5, h6⟩ := H
  refine ⟨h1, ic_fg01 h2, ic_fg01 h3, h4, fun j hj => ?_, fun j hj => ?_⟩
  · rw [ic_rg_out (by omega), ic_rg_out (by omega)]
    exact h5 j hj
  · by_cases h : 16 * r ≤ j
    · rw [ic_rg_in h (by omega), ic_rg_in h (by omega), ic_rg_in (j := 64 + j) (by omega) (by omega), ic_rg_in (j := 64 + j) (by omega) (by omega)]
      exact h6 (j + 16) (by omega)
    · rw [ic_rg_out (by omega), ic_rg_out (by omega), ic_rg_out (by omega), ic_rg_out (by omega)]
      exact h6 j (by omega)
theorem ic_cl (x : Int32) : (x < 0 ∨ (16 : Int32) ≤ x) ∨ ∃ c : Nat, c < 16 ∧ x = nI c := by
  rcases pk_ix x (n := 16) (by decide) with h | h | h
  · exact Or.inl (Or.inl h)
  · exact Or.inl (Or.inr h)
  · exact Or.inr h
theorem ic_sn (x : Int32) (ht : t ≤ 4) : (x < 0 ∨ nI t ≤ x) ∨ ∃ c : Nat, c < t ∧ x = nI c := by
  rcases pk_ix x (n := t) (by omega) with h | h | h
  · exact Or.inl (Or.inl h)
  · exact Or.inl (Or.inr h)
  · exact Or.inr h
end
