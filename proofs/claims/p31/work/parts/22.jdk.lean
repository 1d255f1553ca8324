/-! The JDK methods: what they answer and do. -/
section AXJD
/-- a list: its object, its row, the row's length, its size, its elements -/
def ax_li (σ : SG) (a el cap n : Nat) (f : Nat → Nat) : Prop := sgK σ a = (8, 3) ∧ sgI σ 8 2 a = nI n ∧ sgR σ 8 1 a = el ∧ sgK σ el = (23, cap) ∧ n ≤ cap ∧ cap < 100000 ∧ a < sgZ σ ∧ el < sgZ σ ∧ (∀ i, i < n → sgR σ 23 i el = f i) ∧ ∀ i, n ≤ i → i < cap → sgR σ 23 i el = 0
section
variable {e0 mo : Nat} {σ : SG} {a el cap n i v : Nat} {f : Nat → Nat}
theorem ct_170 {b : Nat} (hi : i < n) (hn : n < 2 ^ 31) : ax_ok e0 mo 0 170 [aI (nI i), aI (nI n), aR b] σ (fun v σ2 => v = aI (nI i) ∧ σ2 = σ) :=
  sg_170_0 ⟨fun h => absurd h (nI_pos (by omega)), fun _ => ⟨fun _ => ⟨rfl, rfl⟩, fun h => absurd (nI_lt hi hn) h⟩⟩
theorem ct_168 (hi : i < n) (hn : n < 2 ^ 31) : ax_ok e0 mo 1 168 [aI (nI i), aI (nI n)] σ (fun v σ2 => v = aI (nI i) ∧ σ2 = σ) := by
  refine sg_168_0 (d := 0) (ax_use0 (ct_170 hi hn) rfl ?_)
  exact sg_168_6 (d := 0) ⟨rfl, rfl⟩
theorem ct_157 (h : ax_li σ a el cap n f) : ax_ok e0 mo 0 157 [aR a] σ (fun v σ2 => v = aI (nI n) ∧ σ2 = σ) := by
  obtain ⟨h1, h2, h3, h4, h5, h6, h7, h8, h9, h10⟩ := h
  refine sg_157_0 ⟨ax_kd h1, ?_⟩
  rw [h2]
  exact ⟨rfl, rfl⟩
theorem ct_158 (h : ax_li σ a el cap n f) : ax_ok e0 mo 0 158 [aR a] σ (fun v σ2 => v = aI (if n = 0 then 1 else 0) ∧ σ2 = σ) := by
  obtain ⟨h1, h2, h3, h4, h5, h6, h7, h8, h9, h10⟩ := h
  refine sg_158_0 ⟨ax_kd h1, ?_⟩
  rw [h2]
  refine ⟨fun h => ⟨Or.inr rfl, ?_, rfl⟩, fun h => ⟨Or.inl rfl, ?_, rfl⟩⟩
  · rw [if_pos]
    exact (nI_eq (b := 0) (by omega) (by omega)).mp h
  · rw [if_neg]
    exact fun q => h (by rw [q]; rfl)
theorem ct_159 (h : ax_li σ a el cap n f) (hi : i < n) : ax_ok e0 mo 0 159 [aR a, aI (nI i)] σ (fun v σ2 => v = aR (f i) ∧ σ2 = σ) := by
  obtain ⟨h1, h2, h3, h4, h5, h6, h7, h8, h9, h10⟩ := h
  refine sg_159_0 ⟨ax_kd h1, ?_⟩
  rw [h3, nI_clamp (by omega), h9 i hi]
  exact ⟨ax_in_nI h4 (by omega) (by omega), rfl, rfl⟩
theorem ct_160 (h : ax_li σ a el cap n f) (hi : i < n) : ax_ok e0 mo 2 160 [aR a, aI (nI i)] σ (fun v σ2 => v = aR (f i) ∧ σ2 = σ) := by
  obtain ⟨h1, h2, h3, h4, h5, h6, h7, h8, h9, h10⟩ := id h
  refine sg_160_0 (d := 1) ⟨ax_kd h1, ?_⟩
  rw [h2]
  refine ax_use0 (ct_168 hi (by omega)) rfl ?_
  refine sg_160_8 (d := 1) ⟨ax_kd h1, ?_⟩
  refine ax_use0 (ct_159 h hi) rfl ?_
  exact sg_160_14 (d := 1) ⟨rfl, rfl⟩
theorem ax_fitE {σ : SG} {v : Nat} (h : (sgK σ v).1 < 9) : ax_fitR σ 23 v := Or.inr (Or.inl ⟨rfl, h⟩)
theorem ct_161 (h : ax_li σ a el cap n f) (hi : i < n) (hv : (sgK σ v).1 < 9) : ax_ok e0 mo 2 161 [aR a, aI (nI i), aR v] σ (fun _ σ2 => σ2 = putR σ 23 i el v) := by
  obtain ⟨h1, h2, h3, h4, h5, h6, h7, h8, h9, h10⟩ := id h
  refine sg_161_0 (d := 1) ⟨ax_kd h1, ?_⟩
  rw [h2]
  refine ax_use0 (ct_168 hi (by omega)) rfl ?_
  refine sg_161_8 (d := 1) ⟨ax_kd h1, ?_⟩
  refine ax_use0 (ct_159 h hi) rfl ?_
  refine sg_161_14 (d := 1) ⟨ax_kd h1, ?_⟩
  rw [h3, nI_clamp (by omega)]
  exact ⟨⟨ax_fitE hv, ax_in_nI h4 (by omega) (by omega)⟩, rfl⟩
theorem ax_li.set (h : ax_li σ a el cap n f) (hi : i < n) (v : Nat) : ax_li (putR σ 23 i el v) a el cap n (fun j => if j = i then v else f j) := by
  obtain ⟨h1, h2, h3, h4, h5, h6, h7, h8, h9, h10⟩ := h
  refine ⟨h1, h2, ?_, h4, h5, h6, h7, h8, fun j hj => ?_, fun j hj hj2 => by rw [gR_putR, if_neg (fun z => by omega)]; exact h10 j hj hj2⟩
  · rw [gR_putR, if_neg (fun z => absurd z.1 (by decide))]
    exact h3
  · rw [gR_putR]
    show _ = if j = i then v else f j
    by_cases q : j = i
    · rw [if_pos ⟨rfl, q, rfl⟩, if_pos q]
    · rw [if_neg (fun z => q z.2.1), if_neg q]
      exact h9 j hj
/-- a list's row gets shorter by one -/
theorem ct_165 (h : ax_li σ a el cap n f) (hi : i < n) (hk : ∀ j, j < n → (sgK σ (f j)).1 < 9) : ax_ok e0 mo 0 165 [aR a, aR el, aI (nI i)] σ (fun v σ2 => v = aU ∧ ax_li σ2 a el cap (n - 1) (fun j => if j < i then f j else f (j + 1)) ∧ ax_F (fun k i q => (k = 8 ∧ q = a ∧ i ≠ 1) ∨ (k = 23 ∧ q = el)) σ σ2 ∧ sgZ σ2 = sgZ σ ∧ sgU σ2 = sgU σ) := by
  obtain ⟨h1, h2, h3, h4, h5, h6, h7, h8, h9, h10⟩ := id h
  have hn1 : nI n - 1 = nI (n - 1) := pk_sub (a := n) (b := 1) (by omega)
  refine sg_165_0 ⟨ax_kd h1, ax_kd h1, ax_kd h1, ?_⟩
  rw [h2, hn1]
  have c1 : (nI (n - 1)).toNatClampNeg = n - 1 := nI_clamp (by omega)
  have c2 : (nI i).toNatClampNeg = i := nI_clamp (by omega)
  refine ⟨fun hlt => ?_, fun hlt => ?_⟩
  · have hlt := (nI_ltI (by omega) (by omega)).mp hlt
    have e1 : nI i + 1 = nI (i + 1) := nI_1 i
    have e2 : nI (n - 1) - nI i = nI (n - 1 - i) := pk_sub (by omega)
    rw [e1, e2]
    have c3 : (nI (i + 1)).toNatClampNeg = i + 1 := nI_clamp (by omega)
    have c4 : (nI (n - 1 - i)).toNatClampNeg = n - 1 - i := nI_clamp (by omega)
    rw [c1, c2, c3, c4]
    refine ⟨⟨by decide, ax_kd h4, ax_kd h4, nI_pos (by omega), nI_pos (by omega), nI_pos (by omega), by rw [h4]; show i + 1 + (n - 1 - i) ≤ cap; omega, by rw [h4]; show i + (n - 1 - i) ≤ cap; omega, by rw [h4]; show 0 < cap; omega, by rw [h4]; show 0 < cap; omega, fun j hj => ?_⟩, ax_kd h1, ⟨Or.inl rfl, ax_in_nI h4 (by omega) (by omega)⟩, rfl, ?_, ?_, rfl, rfl⟩
    · rw [h9 _ (by omega)]
      exact ax_fitE (hk _ (by omega))
    · refine ⟨h1, ?_, h3, h4, by omega, h6, h7, h8, fun j hj => ?_, fun j hj hj2 => ?_⟩
      · exact if_pos ⟨rfl, rfl, rfl⟩
      rotate_left
      · rw [gR_putR]
        by_cases q : j = n - 1
        · rw [if_pos ⟨rfl, q, rfl⟩]
        · rw [if_neg (fun z => q z.2.1), gR_putI, gR_cpy, if_pos ⟨rfl, rfl⟩]
          unfold va_cpy
          show (if i ≤ j ∧ j < i + (n - 1 - i) then sgR σ 23 (i + 1 + (j - i)) el else sgR σ 23 j el) = 0
          rw [if_neg (by omega)]
          exact h10 j (by omega) hj2
      · rw [gR_putR, if_neg (fun z => by omega), gR_putI, gR_cpy, if_pos ⟨rfl, rfl⟩]
        unfold va_cpy
        show (if i ≤ j ∧ j < i + (n - 1 - i) then sgR σ 23 (i + 1 + (j - i)) el else sgR σ 23 j el) = if j < i then f j else f (j + 1)
        by_cases q : j < i
        · rw [if_pos q, if_neg (by omega)]
          exact h9 j (by omega)
        · rw [if_neg q, if_pos (by omega), ← h9 (j + 1) (by omega)]
          congr 1
          omega
    · refine ax_F.putR (ax_F.putI (ax_F.cpy (ax_F.putI (ax_F.refl _ _) fun _ => ?_) fun _ i => ?_) fun _ => ?_) fun _ => ?_
      · exact Or.inl ⟨rfl, rfl, by decide⟩
      · exact Or.inr ⟨rfl, rfl⟩
      · exact Or.inl ⟨rfl, rfl, by decide⟩
      · exact Or.inr ⟨rfl, rfl⟩
  · have hlt : ¬ i < n - 1 := fun q => hlt (nI_lt q (by omega))
    have hin : i = n - 1 := by omega
    rw [c1]
    refine ⟨ax_kd h1, ⟨Or.inl rfl, ax_in_nI h4 (by omega) (by omega)⟩, rfl, ?_, ?_, rfl, rfl⟩
    · refine ⟨h1, ?_, h3, h4, by omega, h6, h7, h8, fun j hj => ?_, fun j hj hj2 => ?_⟩
      · exact if_pos ⟨rfl, rfl, rfl⟩
      rotate_left
      · rw [gR_putR]
        by_cases q : j = n - 1
        · rw [if_pos ⟨rfl, q, rfl⟩]
        · rw [if_neg (fun z => q z.2.1)]
          exact h10 j (by omega) hj2
      · rw [gR_putR, if_neg (fun z => by omega)]
        show sgR σ 23 j el = if j < i then f j else f (j + 1)
        rw [if_pos (by omega)]
        exact h9 j (by omega)
    · refine ax_F.putR (ax_F.putI (ax_F.putI (ax_F.refl _ _) fun _ => ?_) fun _ => ?_) fun _ => ?_
      · exact Or.inl ⟨rfl, rfl, by decide⟩
      · exact Or.inl ⟨rfl, rfl, by decide⟩
      · exact Or.inr ⟨rfl, rfl⟩
theorem ct_164 (h : ax_li σ a el cap n f) (hi : i < n) (hk : ∀ j, j < n → (sgK σ (f j)).1 < 9) : ax_ok e0 mo 2 164 [aR a, aI (nI i)] σ (fun v σ2 => v = aR (f i) ∧ ax_li σ2 a el cap (n - 1) (fun j => if j < i then f j else f (j + 1)) ∧ ax_F (fun k i q => (k = 8 ∧ q = a ∧ i ≠ 1) ∨ (k = 23 ∧ q = el)) σ σ2 ∧ sgZ σ2 = sgZ σ ∧ sgU σ2 = sgU σ) := by
  obtain ⟨h1, h2, h3, h4, h5, h6, h7, h8, h9, h10⟩ := id h
  refine sg_164_0 (d := 1) ⟨ax_kd h1, ?_⟩
  rw [h2]
  refine ax_use0 (ct_168 hi (by omega)) rfl ?_
  refine sg_164_8 (d := 1) ⟨ax_kd h1, ?_⟩
  rw [h3, nI_clamp (by omega), h9 i hi]
  refine ⟨ax_in_nI h4 (by omega) (by omega), ax_kd h1, ?_⟩
  refine ax_use (ct_165 h hi hk) rfl fun w σ2 hw => ?_
  obtain ⟨rfl, hw⟩ := hw
  exact sg_164_24 (d := 1) ⟨rfl, hw⟩
theorem ct_152 (ha : 0 < a) : ax_ok e0 mo 0 152 [aR a] σ (fun v σ2 => v = aU ∧ σ2 = σ) := sg_152_0 ⟨⟨by decide, ha⟩, rfl, rfl⟩
theorem ct_153 (h : sgK σ a = (8, 3)) (ha : 0 < a) : ax_ok e0 mo 1 153 [aR a] σ (fun v σ2 => v = aU ∧ σ2 = putI σ 8 0 a 0) := by
  refine sg_153_0 (d := 0) ⟨ha, ?_⟩
  refine ax_use0 (ct_152 ha) rfl ?_
  exact sg_153_4 (d := 0) ⟨ax_kd h, rfl, rfl⟩
theorem ct_154 (h : sgK σ a = (8, 3)) (ha : 0 < a) : ax_ok e0 mo 2 154 [aR a] σ (fun v σ2 => v = aU ∧ σ2 = putR (putI σ 8 0 a 0) 8 1 a e0) := by
  refine sg_154_0 (d := 1) ⟨ha, ?_⟩
  refine ax_use (ct_153 h ha) rfl fun w σ2 hw => ?_
  obtain ⟨rfl, rfl⟩ := hw
  exact sg_154_4 (d := 1) ⟨ax_kd h, rfl, rfl⟩
theorem ct_169 {g : Nat} (h0 : 0 < cap + max 1 g) (hb : cap + max 1 g < 1000000) : ax_ok e0 mo 0 169 [aI (nI cap), aI (nI 1), aI (nI g)] σ (fun v σ2 => v = aI (nI (cap + max 1 g)) ∧ σ2 = σ) := by
  have hm : (if nI 1 < nI g then nI g else nI 1) = nI (max 1 g) := by
    by_cases q : 1 < g
    · rw [if_pos (nI_lt q (by omega)), Nat.max_eq_right (by omega)]
    · rw [if_neg (nI_nlt (by omega) (by omega)), Nat.max_eq_left (by omega)]
  refine sg_169_0 ⟨Nat.le_of_ble_eq_true rfl, ?_⟩
  rw [hm, nI_add]
  refine ⟨fun _ => ⟨fun h => ?_, fun _ => ⟨rfl, rfl⟩⟩, fun h => ?_⟩
  · have h1 : nI 2147483639 < nI (cap + max 1 g) := h
    have h2 := (nI_ltI (by omega) (by omega)).mp h1
    omega
  · exact absurd (show (0 : Int32) < nI (cap + max 1 g) from nI_lt (a := 0) h0 (by omega)) h
/-- the row copied into a longer one -/
def ax_cp (σ : SG) (el n c : Nat) : SG := cpyC (mkC σ 23 c) el 0 (sgZ σ) 0 n
theorem ct_167 {c : Nat} (hk : sgK σ el = (23, cap)) (he : el < sgZ σ) (h0 : 0 < cap) (hc : cap < c) (hb : c < 1000000) (hf : ∀ j, j < cap → sgR σ 23 j el = 0 ∨ (sgR σ 23 j el < sgZ σ ∧ (sgK σ (sgR σ 23 j el)).1 < 9)) : ax_ok e0 mo 0 167 [aR el, aI (nI c), aR mo] σ (fun v σ2 => v = aR (sgZ σ) ∧ σ2 = ax_cp σ el cap c) := by
  have hne : el ≠ sgZ σ := Nat.ne_of_lt he
  have hk2 : sgK (mkC σ 23 (nI c).toNatClampNeg) el = (23, cap) := by rw [gK_mk, if_neg hne]; exact hk
  have hk3 : sgK (mkC σ 23 (nI c).toNatClampNeg) (sgZ σ) = (23, c) := by rw [gK_mk, if_pos rfl, nI_clamp (by omega)]
  have hm : (if nI c < nI (sgK (mkC σ 23 (nI c).toNatClampNeg) el).2 then nI c else nI (sgK (mkC σ 23 (nI c).toNatClampNeg) el).2) = nI cap := by
    rw [hk2]
    exact if_neg (nI_nlt (by show cap ≤ c; omega) (by omega))
  refine sg_167_0 ⟨rfl, ⟨nI_pos (by omega), by rw [nI_clamp (by omega)]; omega⟩, by rw [hk2]; exact ⟨Nat.le_of_ble_eq_true rfl, Nat.le_of_ble_eq_true rfl⟩, Nat.le_of_ble_eq_true rfl, ?_, ?_⟩
  · rw [hm, hk2, hk3, nI_clamp (n := cap) (by omega)]
    refine ⟨by decide, rfl, rfl, by decide, by decide, nI_pos (by omega), by show 0 + cap ≤ cap; omega, by show 0 + cap ≤ c; omega, h0, by show 0 < c; omega, fun i hi => ?_⟩
    show ax_fitR _ 23 (sgR (mkC σ 23 _) 23 (0 + i) el)
    rw [gR_mk, if_neg (fun z => hne z.2), Nat.zero_add]
    rcases hf i hi with h | ⟨h1, h2⟩
    · exact Or.inl h
    · exact ax_fitE (by rw [gK_mk, if_neg (Nat.ne_of_lt h1)]; exact h2)
  · rw [hm, nI_clamp (n := cap) (by omega), nI_clamp (n := c) (by omega)]
    exact ⟨rfl, rfl⟩
theorem ct_166 {c : Nat} (hk : sgK σ el = (23, cap)) (he : el < sgZ σ) (h0 : 0 < cap) (hc : cap < c) (hb : c < 1000000) (hf : ∀ j, j < cap → sgR σ 23 j el = 0 ∨ (sgR σ 23 j el < sgZ σ ∧ (sgK σ (sgR σ 23 j el)).1 < 9)) : ax_ok e0 mo 1 166 [aR el, aI (nI c)] σ (fun v σ2 => v = aR (sgZ σ) ∧ σ2 = ax_cp σ el cap c) := by
  refine sg_166_0 (d := 0) ⟨⟨Nat.le_of_ble_eq_true rfl, ax_kd hk, by rw [hk]; exact h0⟩, ?_⟩
  refine ax_use (ct_167 hk he h0 hc hb hf) rfl fun w σ2 hw => ?_
  obtain ⟨rfl, rfl⟩ := hw
  exact sg_166_9 (d := 0) ⟨rfl, rfl⟩
/-- the next capacity -/
def ax_cap (cap : Nat) : Nat := if cap = 0 then 10 else cap + max 1 (cap / 2)
theorem ax_cap_lt (cap : Nat) : cap < ax_cap cap := by
  unfold ax_cap
  by_cases q : cap = 0
  · rw [if_pos q]; omega
  · rw [if_neg q]
    have := Nat.le_max_left 1 (cap / 2)
    omega
theorem ax_cap_le (cap : Nat) : ax_cap cap ≤ 2 * cap + 10 := by
  unfold ax_cap
  by_cases q : cap = 0
  · rw [if_pos q]; omega
  · rw [if_neg q]
    rcases Nat.le_total 1 (cap / 2) with h | h
    · rw [Nat.max_eq_right h]; omega
    · rw [Nat.max_eq_left h]; omega
theorem ax_cap_pot (cap : Nat) : ax_cap cap + 4 * cap ≤ 4 * ax_cap cap := by
  unfold ax_cap
  by_cases q : cap = 0
  · rw [if_pos q]; omega
  · rw [if_neg q]
    rcases Nat.le_total 1 (cap / 2) with h | h
    · rw [Nat.max_eq_right h]; omega
    · rw [Nat.max_eq_left h]; omega
/-- the row is full: a longer one, of the same elements -/
theorem ct_155 (h : ax_li σ a el cap n f) (hn : n = cap) (h0 : cap = 0 → el = e0) (hc : cap < 40000) (hf : ∀ j, j < n → f j < sgZ σ ∧ (sgK σ (f j)).1 < 9) : ax_ok e0 mo 2 155 [aR a, aI (nI (cap + 1))] σ (fun v σ2 => v = aR (sgZ σ) ∧ ax_li σ2 a (sgZ σ) (ax_cap cap) n f ∧ ax_F (fun k i q => k = 8 ∧ q = a ∧ i = 1) σ σ2 ∧ sgZ σ2 = sgZ σ + 1 ∧ sgU σ2 = sgU σ + ax_cap cap) := by
  obtain ⟨h1, h2, h3, h4, h5, h6, h7, h8, h9, h10⟩ := id h
  have hna : a ≠ sgZ σ := Nat.ne_of_lt h7
  have hne : el ≠ sgZ σ := Nat.ne_of_lt h8
  refine sg_155_0 (d := 1) ⟨ax_kd h1, ?_⟩
  rw [h3, h4]
  refine ⟨⟨Nat.le_of_ble_eq_true rfl, Nat.le_of_ble_eq_true rfl⟩, fun hpos => ?_, fun hpos => ?_⟩
  · have hpos : 0 < cap := (nI_ltI (a := 0) (by omega) (by omega)).mp hpos
    have e1 : nI (cap + 1) - nI cap = nI 1 := by rw [pk_sub (by omega)]; congr 1; omega
    have e2 : nI cap >>> ((1 : Int32) &&& 31) = nI (cap / 2) := pk_shrN (by omega) _ 1 (by decide)
    have e3 : cap + max 1 (cap / 2) = ax_cap cap := by unfold ax_cap; rw [if_neg (by omega)]
    have e4 := ax_cap_le cap
    have e5 := ax_cap_lt cap
    show ax_wp e0 mo 1 169 (0, ax_entry 169 [aI (nI cap), aI (nI (cap + 1) - nI cap), aI (nI cap >>> ((1 : Int32) &&& 31))], []) σ _
    rw [e1, e2]
    refine ax_use0 (ct_169 (by omega) (by omega)) rfl ?_
    rw [e3]
    refine sg_155_30 (d := 1) ⟨ax_kd h1, ?_⟩
    rw [h3]
    refine ax_use (ct_166 h4 h8 hpos e5 (by omega) fun j hj => Or.inr ?_) rfl fun w σ2 hw => ?_
    · rw [h9 j (by omega)]; exact hf j (by omega)
    · obtain ⟨rfl, rfl⟩ := hw
      have k1 : sgK (ax_cp σ el cap (ax_cap cap)) a = (8, 3) := by
        show sgK (mkC σ 23 (ax_cap cap)) a = _
        rw [gK_mk, if_neg hna]; exact h1
      refine sg_155_40 (d := 1) ⟨ax_kd k1, rfl, ⟨k1, ?_, ?_, ?_, by omega, by omega, Nat.lt_succ_of_lt h7, Nat.lt_succ_self _, fun j hj => ?_, fun j hj hj2 => ?_⟩, ?_, rfl, rfl⟩
      · show sgI (mkC σ 23 (ax_cap cap)) 8 2 a = _
        rw [gI_mk, if_neg (fun z => hna z.2)]; exact h2
      · exact if_pos ⟨rfl, rfl, rfl⟩
      · show sgK (mkC σ 23 (ax_cap cap)) (sgZ σ) = _
        rw [gK_mk, if_pos rfl]
      · rw [gR_putR, if_neg (fun z => absurd z.1 (by decide))]
        show sgR (cpyC (mkC σ 23 (ax_cap cap)) el 0 (sgZ σ) 0 cap) 23 j (sgZ σ) = _
        rw [gR_cpy, if_pos ⟨rfl, rfl⟩]
        unfold va_cpy
        rw [if_pos (by omega)]
        show sgR (mkC σ 23 (ax_cap cap)) 23 (0 + (j - 0)) el = _
        rw [gR_mk, if_neg (fun z => hne z.2), Nat.zero_add, Nat.sub_zero]
        exact h9 j hj
      · rw [gR_putR, if_neg (fun z => absurd z.1 (by decide))]
        show sgR (cpyC (mkC σ 23 (ax_cap cap)) el 0 (sgZ σ) 0 cap) 23 j (sgZ σ) = _
        rw [gR_cpy, if_pos ⟨rfl, rfl⟩]
        unfold va_cpy
        rw [if_neg (by omega)]
        show sgR (mkC σ 23 (ax_cap cap)) 23 j (sgZ σ) = 0
        rw [gR_mk, if_pos ⟨rfl, rfl⟩]
      · refine ax_F.putR (ax_F.cpy (ax_F.mkC (ax_F.refl _ _)) fun q => absurd q (Nat.lt_irrefl _)) fun _ => ⟨rfl, rfl, rfl⟩
  · have hc0 : cap = 0 := by
      rcases Nat.eq_zero_or_pos cap with q | q
      · exact q
      · exact absurd (show (0 : Int32) < nI cap from nI_lt (a := 0) q (by omega)) hpos
    subst hc0
    subst hn
    refine ⟨ax_kd h1, h0 rfl, ?_⟩
    have hm : (if (10 : Int32) < nI (0 + 1) then nI (0 + 1) else (10 : Int32)) = nI 10 := by decide
    rw [hm]
    have c10 : (nI 10).toNatClampNeg = 10 := by decide
    rw [c10]
    have k1 : sgK (mkC σ 23 10) a = (8, 3) := by rw [gK_mk, if_neg hna]; exact h1
    refine ⟨Nat.le_of_ble_eq_true rfl, ⟨by decide, by decide⟩, ax_kd k1, rfl, ⟨k1, ?_, ?_, ?_, Nat.zero_le _, by decide, Nat.lt_succ_of_lt h7, Nat.lt_succ_self _, fun j hj => absurd hj (Nat.not_lt_zero j), fun j hj hj2 => ?_⟩, ?_, rfl, rfl⟩
    · show sgI (mkC σ 23 10) 8 2 a = _
      rw [gI_mk, if_neg (fun z => hna z.2)]; exact h2
    · exact if_pos ⟨rfl, rfl, rfl⟩
    · show sgK (mkC σ 23 10) (sgZ σ) = _
      rw [gK_mk, if_pos rfl]
      rfl
    · rw [gR_putR, if_neg (fun z => absurd z.1 (by decide)), gR_mk, if_pos ⟨rfl, rfl⟩]
    · exact ax_F.putR (ax_F.mkC (ax_F.refl _ _)) fun _ => ⟨rfl, rfl, rfl⟩
theorem ct_156 (h : ax_li σ a el cap n f) (hn : n = cap) (h0 : cap = 0 → el = e0) (hc : cap < 40000) (hf : ∀ j, j < n → f j < sgZ σ ∧ (sgK σ (f j)).1 < 9) : ax_ok e0 mo 3 156 [aR a] σ (fun v σ2 => v = aR (sgZ σ) ∧ ax_li σ2 a (sgZ σ) (ax_cap cap) n f ∧ ax_F (fun k i q => k = 8 ∧ q = a ∧ i = 1) σ σ2 ∧ sgZ σ2 = sgZ σ + 1 ∧ sgU σ2 = sgU σ + ax_cap cap) := by
  obtain ⟨h1, h2, h3, h4, h5, h6, h7, h8, h9, h10⟩ := id h
  refine sg_156_0 (d := 2) ⟨ax_kd h1, ax_kd h1, ?_⟩
  rw [h2, nI_1, hn]
  refine ax_use (ct_155 h hn h0 hc hf) rfl fun w σ2 hw => ?_
  obtain ⟨rfl, hw⟩ := hw
  rw [hn] at hw
  exact sg_156_10 (d := 2) ⟨rfl, hw⟩
/-- what an add leaves -/
def ax_ad (σ σ2 : SG) (a el cap n v : Nat) (f : Nat → Nat) (el' cap' : Nat) : Prop := ax_li σ2 a el' cap' (n + 1) (fun j => if j = n then v else f j) ∧ ax_F (fun k _ q => k = 8 ∧ q = a ∨ k = 23 ∧ q = el) σ σ2 ∧ (el' = el ∧ cap' = cap ∧ sgZ σ2 = sgZ σ ∧ sgU σ2 = sgU σ ∨ el' = sgZ σ ∧ n = cap ∧ cap' = ax_cap cap ∧ sgZ σ2 = sgZ σ + 1 ∧ sgU σ2 = sgU σ + ax_cap cap)
theorem ax_li.put {σ : SG} {a el cap n v : Nat} {f : Nat → Nat} (h : ax_li σ a el cap n f) (hn : n < cap) : ax_li (putI (putR σ 23 n el v) 8 2 a (nI (n + 1))) a el cap (n + 1) (fun j => if j = n then v else f j) := by
  obtain ⟨h1, h2, h3, h4, h5, h6, h7, h8, h9, h10⟩ := h
  refine ⟨h1, if_pos ⟨rfl, rfl, rfl⟩, ?_, h4, hn, h6, h7, h8, fun j hj => ?_, fun j hj hj2 => ?_⟩
  · rw [gR_putI, gR_putR, if_neg (fun z => absurd z.1 (by decide))]
    exact h3
  · rw [gR_putI, gR_putR]
    show _ = if j = n then v else f j
    by_cases q : j = n
    · rw [if_pos ⟨rfl, q, rfl⟩, if_pos q]
    · rw [if_neg (fun z => q z.2.1), if_neg q]
      exact h9 j (by omega)
  · rw [gR_putI, gR_putR, if_neg (fun z => by omega)]
    exact h10 j (by omega) hj2
theorem ct_162 (h : ax_li σ a el cap n f) (h0 : cap = 0 → el = e0) (hc : cap < 40000) (hf : ∀ j, j < n → f j < sgZ σ ∧ (sgK σ (f j)).1 < 9) (hv : (sgK σ v).1 < 9) (hvz : v < sgZ σ) : ax_ok e0 mo 4 162 [aR a, aR v, aR el, aI (nI n)] σ (fun w σ2 => w = aU ∧ ∃ el' cap', ax_ad σ σ2 a el cap n v f el' cap') := by
  obtain ⟨h1, h2, h3, h4, h5, h6, h7, h8, h9, h10⟩ := id h
  have hz : (nI n).toNatClampNeg = n := nI_clamp (by omega)
  refine sg_162_0 (d := 3) ?_
  rw [h4]
  refine ⟨⟨Nat.le_of_ble_eq_true rfl, Nat.le_of_ble_eq_true rfl⟩, fun hq => ?_, fun hq => ?_⟩
  · have hn : n = cap := (nI_eq (by omega) (by omega)).mp hq
    refine ⟨ax_kd h1, ax_use (ct_156 h hn h0 hc hf) rfl fun w σ2 hw => ?_⟩
    obtain ⟨rfl, g1, g2, g3, g4⟩ := hw
    have hcc := ax_cap_lt cap
    obtain ⟨k1, k2, k3, k4, k5, k6, k7, k8, k9, k10⟩ := id g1
    refine sg_162_10 (d := 3) ?_
    rw [hz, nI_1]
    have hkv : (sgK σ2 v).1 < 9 := by rw [g2.2.2.1 v hvz]; exact hv
    refine ⟨⟨ax_fitE hkv, ax_in_nI k4 (by omega) (by omega)⟩, ax_kd k1, rfl, sgZ σ, ax_cap cap, g1.put (by omega), ?_, Or.inr ⟨rfl, hn, rfl, g3, g4⟩⟩
    refine ax_F.putI (ax_F.putR (g2.mono fun k i q _ z => Or.inl ⟨z.1, z.2.1⟩) fun q => absurd q (Nat.lt_irrefl _)) fun _ => Or.inl ⟨rfl, rfl⟩
  · have hn : n < cap := by
      rcases Nat.lt_or_ge n cap with q | q
      · exact q
      · exact absurd (by rw [show n = cap by omega]) hq
    rw [hz, nI_1]
    refine ⟨⟨ax_fitE hv, ax_in_nI h4 (by omega) (by omega)⟩, ax_kd h1, rfl, el, cap, h.put hn, ?_, Or.inl ⟨rfl, rfl, rfl, rfl⟩⟩
    exact ax_F.putI (ax_F.putR (ax_F.refl _ _) fun _ => Or.inr ⟨rfl, rfl⟩) fun _ => Or.inl ⟨rfl, rfl⟩
/-- a list's other counts may change -/
theorem ax_li.mod {σ : SG} {a el cap n : Nat} {f : Nat → Nat} {w : Int32} (h : ax_li σ a el cap n f) : ax_li (putI σ 8 0 a w) a el cap n f := by
  obtain ⟨h1, h2, h3, h4, h5, h6, h7, h8, h9, h10⟩ := h
  exact ⟨h1, by rw [gI_putI, if_neg (fun z => absurd z.2.1 (by decide))]; exact h2, h3, h4, h5, h6, h7, h8, h9, h10⟩
theorem ct_163 (h : ax_li σ a el cap n f) (h0 : cap = 0 → el = e0) (hc : cap < 40000) (hf : ∀ j, j < n → f j < sgZ σ ∧ (sgK σ (f j)).1 < 9) (hv : (sgK σ v).1 < 9) (hvz : v < sgZ σ) : ax_ok e0 mo 5 163 [aR a, aR v] σ (fun w σ2 => w = aI 1 ∧ ∃ el' cap', ax_ad σ σ2 a el cap n v f el' cap') := by
  obtain ⟨h1, h2, h3, h4, h5, h6, h7, h8, h9, h10⟩ := id h
  refine sg_163_0 (d := 4) ⟨ax_kd h1, ax_kd h1, ax_kd h1, ax_kd h1, ax_kd h1, ?_⟩
  rw [h2, h3]
  refine ax_use (ct_162 (h.mod (w := sgI σ 8 0 a + 1)) h0 hc hf hv hvz) rfl fun w σ2 hw => ?_
  obtain ⟨rfl, el', cap', g1, g2, g3⟩ := hw
  refine sg_163_23 (d := 4) ⟨Or.inr rfl, rfl, el', cap', g1, ?_, g3⟩
  have g0 : ax_F (fun k _ q => k = 8 ∧ q = a ∨ k = 23 ∧ q = el) σ (putI σ 8 0 a (sgI σ 8 0 a + 1)) := ax_F.putI (ax_F.refl _ _) fun _ => Or.inl ⟨rfl, rfl⟩
  exact g0.trans g2
end
end AXJD
