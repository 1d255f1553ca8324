/-! The JDK methods: what they answer and do. -/
section AXJD
/-- a list: its object, its row, the row's length, its size, its elements -/
def ax_li (σ : SG) (a el cap n : Nat) (f : Nat → Nat) : Prop := sgK σ a = (8, 3) ∧ sgI σ 8 2 a = nI n ∧ sgR σ 8 1 a = el ∧ sgK σ el = (23, cap) ∧ n ≤ cap ∧ cap < 100000 ∧ a < sgZ σ ∧ el < sgZ σ ∧ ∀ i, i < n → sgR σ 23 i el = f i
section
variable {e0 mo : Nat} {σ : SG} {a el cap n i v : Nat} {f : Nat → Nat}
theorem ct_170 {b : Nat} (hi : i < n) (hn : n < 2 ^ 31) : ax_ok e0 mo 0 170 [aI (nI i), aI (nI n), aR b] σ (fun v σ2 => v = aI (nI i) ∧ σ2 = σ) :=
  sg_170_0 ⟨fun h => absurd h (nI_pos (by omega)), fun _ => ⟨fun _ => ⟨rfl, rfl⟩, fun h => absurd (nI_lt hi hn) h⟩⟩
theorem ct_168 (hi : i < n) (hn : n < 2 ^ 31) : ax_ok e0 mo 1 168 [aI (nI i), aI (nI n)] σ (fun v σ2 => v = aI (nI i) ∧ σ2 = σ) := by
  refine sg_168_0 (d := 0) (ax_use0 (ct_170 hi hn) rfl ?_)
  exact sg_168_6 (d := 0) ⟨rfl, rfl⟩
theorem ct_157 (h : ax_li σ a el cap n f) : ax_ok e0 mo 0 157 [aR a] σ (fun v σ2 => v = aI (nI n) ∧ σ2 = σ) := by
  obtain ⟨h1, h2, h3, h4, h5, h6, h7, h8, h9⟩ := h
  refine sg_157_0 ⟨ax_kd h1, ?_⟩
  rw [h2]
  exact ⟨rfl, rfl⟩
theorem ct_158 (h : ax_li σ a el cap n f) : ax_ok e0 mo 0 158 [aR a] σ (fun v σ2 => v = aI (if n = 0 then 1 else 0) ∧ σ2 = σ) := by
  obtain ⟨h1, h2, h3, h4, h5, h6, h7, h8, h9⟩ := h
  refine sg_158_0 ⟨ax_kd h1, ?_⟩
  rw [h2]
  refine ⟨fun h => ⟨Or.inr rfl, ?_, rfl⟩, fun h => ⟨Or.inl rfl, ?_, rfl⟩⟩
  · rw [if_pos]
    exact (nI_eq (b := 0) (by omega) (by omega)).mp h
  · rw [if_neg]
    exact fun q => h (by rw [q]; rfl)
theorem ct_159 (h : ax_li σ a el cap n f) (hi : i < n) : ax_ok e0 mo 0 159 [aR a, aI (nI i)] σ (fun v σ2 => v = aR (f i) ∧ σ2 = σ) := by
  obtain ⟨h1, h2, h3, h4, h5, h6, h7, h8, h9⟩ := h
  refine sg_159_0 ⟨ax_kd h1, ?_⟩
  rw [h3, nI_clamp (by omega), h9 i hi]
  exact ⟨ax_in_nI h4 (by omega) (by omega), rfl, rfl⟩
theorem ct_160 (h : ax_li σ a el cap n f) (hi : i < n) : ax_ok e0 mo 2 160 [aR a, aI (nI i)] σ (fun v σ2 => v = aR (f i) ∧ σ2 = σ) := by
  obtain ⟨h1, h2, h3, h4, h5, h6, h7, h8, h9⟩ := id h
  refine sg_160_0 (d := 1) ⟨ax_kd h1, ?_⟩
  rw [h2]
  refine ax_use0 (ct_168 hi (by omega)) rfl ?_
  refine sg_160_8 (d := 1) ⟨ax_kd h1, ?_⟩
  refine ax_use0 (ct_159 h hi) rfl ?_
  exact sg_160_14 (d := 1) ⟨rfl, rfl⟩
theorem ax_fitE {σ : SG} {v : Nat} (h : (sgK σ v).1 < 9) : ax_fitR σ 23 v := Or.inr (Or.inl ⟨rfl, h⟩)
theorem ct_161 (h : ax_li σ a el cap n f) (hi : i < n) (hv : (sgK σ v).1 < 9) : ax_ok e0 mo 2 161 [aR a, aI (nI i), aR v] σ (fun _ σ2 => σ2 = putR σ 23 i el v) := by
  obtain ⟨h1, h2, h3, h4, h5, h6, h7, h8, h9⟩ := id h
  refine sg_161_0 (d := 1) ⟨ax_kd h1, ?_⟩
  rw [h2]
  refine ax_use0 (ct_168 hi (by omega)) rfl ?_
  refine sg_161_8 (d := 1) ⟨ax_kd h1, ?_⟩
  refine ax_use0 (ct_159 h hi) rfl ?_
  refine sg_161_14 (d := 1) ⟨ax_kd h1, ?_⟩
  rw [h3, nI_clamp (by omega)]
  exact ⟨⟨ax_fitE hv, ax_in_nI h4 (by omega) (by omega)⟩, rfl⟩
theorem ax_li.set (h : ax_li σ a el cap n f) (i v : Nat) : ax_li (putR σ 23 i el v) a el cap n (fun j => if j = i then v else f j) := by
  obtain ⟨h1, h2, h3, h4, h5, h6, h7, h8, h9⟩ := h
  refine ⟨h1, h2, ?_, h4, h5, h6, h7, h8, fun j hj => ?_⟩
  · rw [gR_putR, if_neg (by decide +revert)]
    exact h3
  · rw [gR_putR]
    by_cases q : j = i
    · rw [if_pos ⟨rfl, q, rfl⟩, if_pos q]
    · rw [if_neg (fun z => q z.2.1), if_neg q]
      exact h9 j hj
/-- a list's row gets shorter by one -/
theorem ct_165 (h : ax_li σ a el cap n f) (hi : i < n) (hk : ∀ j, j < n → (sgK σ (f j)).1 < 9) : ax_ok e0 mo 0 165 [aR a, aR el, aI (nI i)] σ (fun _ σ2 => ax_li σ2 a el cap (n - 1) (fun j => if j < i then f j else f (j + 1)) ∧ ax_F (fun k i q => (k = 8 ∧ q = a ∧ i ≠ 1) ∨ (k = 23 ∧ q = el)) σ σ2 ∧ sgZ σ2 = sgZ σ ∧ sgU σ2 = sgU σ) := by
  obtain ⟨h1, h2, h3, h4, h5, h6, h7, h8, h9⟩ := id h
  have hn1 : nI n - 1 = nI (n - 1) := pk_sub (a := n) (b := 1) (by omega)
  refine sg_165_0 ⟨ax_kd h1, ax_kd h1, ax_kd h1, ?_⟩
  rw [h2, hn1]
  have c1 : (nI (n - 1)).toNatClampNeg = n - 1 := nI_clamp (by omega)
  have c2 : (nI i).toNatClampNeg = i := nI_clamp (by omega)
  refine ⟨fun hlt => ?_, fun hlt => ?_⟩
  · have hlt := (nI_ltI (by omega) (by omega)).mp hlt
    have e1 : nI i + 1 = nI (i + 1) := nI_1 i
    have e2 : nI (n - 1) - nI i = nI (n - 1 - i) := pk_sub (by omega)
    rw [e1, e2]
    have c3 : (nI (i + 1)).toNatClampNeg = i + 1 := nI_clamp (by omega)
    have c4 : (nI (n - 1 - i)).toNatClampNeg = n - 1 - i := nI_clamp (by omega)
    rw [c1, c2, c3, c4]
    refine ⟨⟨by decide, ax_kd h4, ax_kd h4, nI_pos (by omega), nI_pos (by omega), nI_pos (by omega), by rw [h4]; show i + 1 + (n - 1 - i) ≤ cap; omega, by rw [h4]; show i + (n - 1 - i) ≤ cap; omega, by rw [h4]; show 0 < cap; omega, by rw [h4]; show 0 < cap; omega, fun j hj => ?_⟩, ax_kd h1, ⟨Or.inl rfl, ax_in_nI h4 (by omega) (by omega)⟩, ?_, ?_, rfl, rfl⟩
    · rw [gR_putI, h9 _ (by omega)]
      exact ax_fitE (hk _ (by omega))
    · refine ⟨h1, ?_, h3, h4, by omega, h6, h7, h8, fun j hj => ?_⟩
      · exact if_pos ⟨rfl, rfl, rfl⟩
      · rw [gR_putR, if_neg (fun z => by omega), gR_putI, gR_cpy, if_pos ⟨rfl, rfl⟩]
        unfold va_cpy
        rw [gR_putI, gR_putI]
        by_cases q : j < i
        · rw [if_pos q, if_neg (by omega)]
          exact h9 j (by omega)
        · rw [if_neg q, if_pos (by omega), ← h9 (j + 1) (by omega)]
          congr 1
          omega
    · refine ax_F.putR (ax_F.putI (ax_F.cpy (ax_F.putI (ax_F.refl _ _) fun _ => ?_) fun _ i => ?_) fun _ => ?_) fun _ => ?_
      · exact Or.inl ⟨rfl, rfl, by decide⟩
      · exact Or.inr ⟨rfl, rfl⟩
      · exact Or.inl ⟨rfl, rfl, by decide⟩
      · exact Or.inr ⟨rfl, rfl⟩
  · have hlt : ¬ i < n - 1 := fun q => hlt (nI_lt q (by omega))
    have hin : i = n - 1 := by omega
    rw [c1]
    refine ⟨ax_kd h1, ⟨Or.inl rfl, ax_in_nI h4 (by omega) (by omega)⟩, ?_, ?_, rfl, rfl⟩
    · refine ⟨h1, ?_, h3, h4, by omega, h6, h7, h8, fun j hj => ?_⟩
      · exact if_pos ⟨rfl, rfl, rfl⟩
      · rw [gR_putR, if_neg (fun z => by omega), if_pos (by omega)]
        exact h9 j (by omega)
    · refine ax_F.putR (ax_F.putI (ax_F.putI (ax_F.refl _ _) fun _ => ?_) fun _ => ?_) fun _ => ?_
      · exact Or.inl ⟨rfl, rfl, by decide⟩
      · exact Or.inl ⟨rfl, rfl, by decide⟩
      · exact Or.inr ⟨rfl, rfl⟩
theorem ct_164 (h : ax_li σ a el cap n f) (hi : i < n) (hk : ∀ j, j < n → (sgK σ (f j)).1 < 9) : ax_ok e0 mo 2 164 [aR a, aI (nI i)] σ (fun v σ2 => v = aR (f i) ∧ ax_li σ2 a el cap (n - 1) (fun j => if j < i then f j else f (j + 1)) ∧ ax_F (fun k i q => (k = 8 ∧ q = a ∧ i ≠ 1) ∨ (k = 23 ∧ q = el)) σ σ2 ∧ sgZ σ2 = sgZ σ ∧ sgU σ2 = sgU σ) := by
  obtain ⟨h1, h2, h3, h4, h5, h6, h7, h8, h9⟩ := id h
  refine sg_164_0 (d := 1) ⟨ax_kd h1, ?_⟩
  rw [h2]
  refine ax_use0 (ct_168 hi (by omega)) rfl ?_
  refine sg_164_8 (d := 1) ⟨ax_kd h1, ?_⟩
  rw [h3, nI_clamp (by omega), h9 i hi]
  refine ⟨ax_in_nI h4 (by omega) (by omega), ax_kd h1, ?_⟩
  refine ax_use (ct_165 h hi hk) rfl fun w σ2 hw => ?_
  sorry
theorem ct_152 (ha : 0 < a) : ax_ok e0 mo 0 152 [aR a] σ (fun v σ2 => v = aU ∧ σ2 = σ) := sg_152_0 ⟨⟨by decide, ha⟩, rfl, rfl⟩
theorem ct_153 (h : sgK σ a = (8, 3)) (ha : 0 < a) : ax_ok e0 mo 1 153 [aR a] σ (fun v σ2 => v = aU ∧ σ2 = putI σ 8 0 a 0) := by
  refine sg_153_0 (d := 0) ⟨ha, ?_⟩
  refine ax_use0 (ct_152 ha) rfl ?_
  exact sg_153_4 (d := 0) ⟨ax_kd h, rfl, rfl⟩
theorem ct_154 (h : sgK σ a = (8, 3)) (ha : 0 < a) : ax_ok e0 mo 2 154 [aR a] σ (fun v σ2 => v = aU ∧ σ2 = putR (putI σ 8 0 a 0) 8 1 a e0) := by
  refine sg_154_0 (d := 1) ⟨ha, ?_⟩
  refine ax_use (ct_153 h ha) rfl fun w σ2 hw => ?_
  obtain ⟨rfl, rfl⟩ := hw
  exact sg_154_4 (d := 1) ⟨ax_kd h, rfl, rfl⟩
end
end AXJD
