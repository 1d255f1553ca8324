/-! Runs in a small heap are runs in a larger one that holds its cells elsewhere: values and cells by a map; what isn't a cell of the small heap stays as it is. -/
section AXSM
/-- a value that lies below z -/
def ss_v (z : Nat) (v : AV) : Prop := match v with
  | .inr (.inl r) => r < z
  | _ => True
def ss_m (φ : Nat → Nat) (v : AV) : AV := match v with
  | .inr (.inl r) => aR (φ r)
  | v => v
def ss_l (z : Nat) (l : List AV) : Prop := ∀ v ∈ l, ss_v z v
/-- the small heap σ lies in τ -/
def ss_H (e0 ms mo : Nat) (φ : Nat → Nat) (σ τ : SG) : Prop :=
  (φ 0 = 0 ∧ φ e0 = e0 ∧ φ ms = mo) ∧ (0 < sgZ σ ∧ e0 < sgZ σ ∧ ms < sgZ σ ∧ sgK σ e0 = (23, 0)) ∧
  (∀ r, sgZ σ ≤ r → 30 ≤ (sgK σ r).1) ∧ (∀ r, r < sgZ σ → φ r = 0 → r = 0) ∧
  (∀ r, r < sgZ σ → (sgK σ r).1 < 30 → φ r < sgZ τ ∧ sgK τ (φ r) = sgK σ r ∧ ∀ i, sgI τ (sgK σ r).1 i (φ r) = sgI σ (sgK σ r).1 i r ∧ sgJ τ (sgK σ r).1 i (φ r) = sgJ σ (sgK σ r).1 i r ∧ sgR τ (sgK σ r).1 i (φ r) = φ (sgR σ (sgK σ r).1 i r)) ∧
  (∀ k i r, sgR σ k i r < sgZ σ) ∧
  (∀ r q, r < sgZ σ → q < sgZ σ → (sgK σ r).1 < 30 → (sgK σ q).1 < 30 → φ r = φ q → r = q)
/-- the small heap's own cells -/
def ss_O (e0 : Nat) (σ : SG) (r : Nat) : Prop := r < sgZ σ ∧ (sgK σ r).1 < 30 ∧ r ≠ e0
/-- from σ in τ to σ' in τ' -/
def ss_T (e0 : Nat) (φ : Nat → Nat) (σ τ : SG) (φ' : Nat → Nat) (σ' τ' : SG) : Prop :=
  (sgZ τ' + sgZ σ = sgZ τ + sgZ σ' ∧ sgU τ' + sgU σ = sgU τ + sgU σ' ∧ sgZ σ ≤ sgZ σ' ∧ sgU σ ≤ sgU σ') ∧
  (∀ r, r < sgZ σ → φ' r = φ r) ∧ (∀ r, r < sgZ σ → sgK σ' r = sgK σ r) ∧ (∀ r, sgZ σ ≤ r → r < sgZ σ' → (sgK σ' r).1 < 30 → sgZ τ ≤ φ' r) ∧
  (∀ q, q < sgZ τ → sgK τ' q = sgK τ q) ∧
  (∀ q, q < sgZ τ → (∀ r, ss_O e0 σ r → φ r ≠ q) → ∀ k i, sgI τ' k i q = sgI τ k i q ∧ sgJ τ' k i q = sgJ τ k i q ∧ sgR τ' k i q = sgR τ k i q)
theorem ss_T.refl (e0 : Nat) (φ : Nat → Nat) (σ τ : SG) : ss_T e0 φ σ τ φ σ τ :=
  ⟨⟨rfl, rfl, Nat.le_refl _, Nat.le_refl _⟩, fun _ _ => rfl, fun _ _ => rfl, fun r h1 h2 => by omega, fun _ _ => rfl, fun _ _ _ _ _ => ⟨rfl, rfl, rfl⟩⟩
theorem ss_T.trans {e0 : Nat} {φ φ1 φ2 : Nat → Nat} {σ τ σ1 τ1 σ2 τ2 : SG} (h : ss_T e0 φ σ τ φ1 σ1 τ1) (k : ss_T e0 φ1 σ1 τ1 φ2 σ2 τ2) : ss_T e0 φ σ τ φ2 σ2 τ2 := by
  obtain ⟨⟨h1, h2, h3, h3'⟩, h4, h5, h6, h7, h8⟩ := h
  obtain ⟨⟨k1, k2, k3, k3'⟩, k4, k5, k6, k7, k8⟩ := k
  have hZ : sgZ τ ≤ sgZ τ1 := by omega
  refine ⟨⟨by omega, by omega, by omega, by omega⟩, fun r hr => (k4 r (by omega)).trans (h4 r hr), fun r hr => (k5 r (by omega)).trans (h5 r hr), fun r a b c => ?_, fun q hq => (k7 q (by omega)).trans (h7 q hq), fun q hq hn k i => ?_⟩
  · by_cases z : r < sgZ σ1
    · rw [k5 r z] at c
      rw [k4 r z]
      exact h6 r a z c
    · exact Nat.le_trans hZ (k6 r (by omega) b c)
  · obtain ⟨a1, a2, a3⟩ := h8 q hq hn k i
    obtain ⟨b1, b2, b3⟩ := k8 q (by omega) (fun r hr => by
      obtain ⟨c1, c2, c3⟩ := hr
      by_cases z : r < sgZ σ
      · rw [h4 r z]
        rw [h5 r z] at c2
        exact hn r ⟨z, c2, c3⟩
      · have := h6 r (by omega) c1 c2
        omega) k i
    exact ⟨b1.trans a1, b2.trans a2, b3.trans a3⟩
def ss_h (sr : SR) : SG := match sr with
  | .inl (_, σ) => σ
  | .inr (.inl (_, _, _, σ)) => σ
  | .inr (.inr (.inl (_, σ))) => σ
  | .inr (.inr (.inr (_, σ))) => σ
def ss_ok (z : Nat) (sr : SR) : Prop := match sr with
  | .inl (fr, _) => ss_l z fr.2.1 ∧ ss_l z fr.2.2
  | .inr (.inl (_, as, fr, _)) => ss_l z as ∧ ss_l z fr.2.1 ∧ ss_l z fr.2.2
  | .inr (.inr (.inl (v, _))) => ss_v z v
  | .inr (.inr (.inr _)) => True
def ss_f (φ : Nat → Nat) (fr : FRM) : FRM := (fr.1, fr.2.1.map (ss_m φ), fr.2.2.map (ss_m φ))
def ss_s (φ : Nat → Nat) (τ : SG) (sr : SR) : SR := match sr with
  | .inl (fr, _) => .inl (ss_f φ fr, τ)
  | .inr (.inl (y, as, fr, _)) => .inr (.inl (y, as.map (ss_m φ), ss_f φ fr, τ))
  | .inr (.inr (.inl (v, _))) => .inr (.inr (.inl (ss_m φ v, τ)))
  | .inr (.inr (.inr (E, _))) => .inr (.inr (.inr (E, τ)))
/-- what the step sr of the small heap is in the large one -/
def ss_Q (e0 ms mo : Nat) (φ : Nat → Nat) (σ τ : SG) (sr : SR) (m : Option SM) : Prop :=
  ∃ (φ' : Nat → Nat) (τ1 : SG), m.bind ax_pick = some (ss_s φ' τ1 sr) ∧ ss_H e0 ms mo φ' (ss_h sr) τ1 ∧ ss_T e0 φ σ τ φ' (ss_h sr) τ1 ∧ ss_ok (sgZ (ss_h sr)) sr
theorem ss_cons {z : Nat} {v : AV} {l : List AV} (hv : ss_v z v) (h : ss_l z l) : ss_l z (v :: l) := fun u hu => by
  rcases List.mem_cons.mp hu with rfl | hu
  · exact hv
  · exact h u hu
theorem ss_hd {z : Nat} {v : AV} {l : List AV} (h : ss_l z (v :: l)) : ss_v z v := h v List.mem_cons_self
theorem ss_tl {z : Nat} {v : AV} {l : List AV} (h : ss_l z (v :: l)) : ss_l z l := fun u hu => h u (List.mem_cons_of_mem _ hu)
theorem ss_v.le {z z' : Nat} {v : AV} (h : ss_v z v) (hz : z ≤ z') : ss_v z' v := by
  rcases v with v | (r | u)
  · exact trivial
  · exact Nat.lt_of_lt_of_le h hz
  · exact trivial
theorem ss_l.le {z z' : Nat} {l : List AV} (h : ss_l z l) (hz : z ≤ z') : ss_l z' l := fun v hv => (h v hv).le hz
theorem ss_m_up {z : Nat} {φ φ' : Nat → Nat} (hφ : ∀ r, r < z → φ' r = φ r) {v : AV} (h : ss_v z v) : ss_m φ' v = ss_m φ v := by
  rcases v with v | (r | u)
  · rfl
  · exact congrArg aR (hφ r h)
  · rfl
theorem ss_l_up {z : Nat} {φ φ' : Nat → Nat} (hφ : ∀ r, r < z → φ' r = φ r) {l : List AV} (h : ss_l z l) : l.map (ss_m φ') = l.map (ss_m φ) :=
  List.map_congr_left fun v hv => ss_m_up hφ (h v hv)
theorem ss_set {z : Nat} {v : AV} {l : List AV} {a : Nat} (hv : ss_v z v) (h : ss_l z l) : ss_l z (l.set a v) := fun u hu => by
  rcases List.mem_or_eq_of_mem_set hu with hu | rfl
  · exact h u hu
  · exact hv
section
variable {e0 ms mo : Nat} {φ : Nat → Nat} {σ τ : SG} {L st : List AV} {sr : SR} {nx a b f t n : Nat}
theorem ss_go {L' st' : List AV} (h : ss_H e0 ms mo φ σ τ) (hL : ss_l (sgZ σ) L') (hs : ss_l (sgZ σ) st') : ss_Q e0 ms mo φ σ τ (.inl ((nx, L', st'), σ)) (some (.inl (.inl ((nx, L'.map (ss_m φ), st'.map (ss_m φ)), τ)))) :=
  ⟨φ, τ, rfl, h, ss_T.refl _ _ _ _, hL, hs⟩
theorem ss_Q.br1 {p : Prop} {s t : SR} (hp : p) (h : ss_Q e0 ms mo φ σ τ sr (some (.inl s))) : ss_Q e0 ms mo φ σ τ sr (some (.inr (.inr (p, s, t)))) := by
  obtain ⟨φ', τ1, e, r⟩ := h
  refine ⟨φ', τ1, ?_, r⟩
  have e1 : (some (.inr (.inr (p, s, t))) : Option SM).bind ax_pick = some s := @if_pos p (Classical.propDecidable p) hp _ _ _
  exact e1.trans e
theorem ss_Q.br2 {p : Prop} {s t : SR} (hp : ¬ p) (h : ss_Q e0 ms mo φ σ τ sr (some (.inl t))) : ss_Q e0 ms mo φ σ τ sr (some (.inr (.inr (p, s, t)))) := by
  obtain ⟨φ', τ1, e, r⟩ := h
  refine ⟨φ', τ1, ?_, r⟩
  have e1 : (some (.inr (.inr (p, s, t))) : Option SM).bind ax_pick = some t := @if_neg p (Classical.propDecidable p) hp _ _ _
  exact e1.trans e
theorem ss_Q.gd {p : Prop} {s : SR} (hp : p) (h : ss_Q e0 ms mo φ σ τ sr (some (.inl s))) : ss_Q e0 ms mo φ σ τ sr (some (.inr (.inl (p, s)))) := by
  obtain ⟨φ', τ1, e, r⟩ := h
  refine ⟨φ', τ1, ?_, r⟩
  have e1 : (some (.inr (.inl (p, s))) : Option SM).bind ax_pick = some s := @if_pos p (Classical.propDecidable p) hp _ _ _
  exact e1.trans e
/-- the kind of a place -/
theorem ss_kd (h : ss_H e0 ms mo φ σ τ) {r k : Nat} (hr : r < sgZ σ) (hk : (sgK σ r).1 = k) (hk3 : k < 30) : φ r < sgZ τ ∧ sgK τ (φ r) = sgK σ r ∧ ∀ i, sgI τ k i (φ r) = sgI σ k i r ∧ sgJ τ k i (φ r) = sgJ σ k i r ∧ sgR τ k i (φ r) = φ (sgR σ k i r) := by
  subst hk
  exact h.2.2.2.2.1 r hr hk3
theorem ss_in (h : ss_H e0 ms mo φ σ τ) {r k : Nat} {i : Int32} (hr : r < sgZ σ) (hk3 : k < 30) (hi : ax_in σ k r i) : ax_in τ k (φ r) i := by
  obtain ⟨h1, h2⟩ := hi
  obtain ⟨-, e, -⟩ := ss_kd h hr h1 hk3
  unfold ax_in
  rw [e]
  exact ⟨h1, h2⟩
theorem ss_nz (h : ss_H e0 ms mo φ σ τ) {r : Nat} (hr : r < sgZ σ) : φ r = 0 ↔ r = 0 := ⟨h.2.2.2.1 r hr, fun z => by rw [z]; exact h.1.1⟩
theorem ss_own (h : ss_H e0 ms mo φ σ τ) {r : Nat} (hk : (sgK σ r).1 ≠ 23 ∨ (sgK σ r).2 ≠ 0) : r ≠ e0 := fun z => by
  subst z
  rw [h.2.1.2.2.2] at hk
  rcases hk with hk | hk
  · exact hk rfl
  · exact hk rfl
-- writes
theorem ss_wI (h : ss_H e0 ms mo φ σ τ) {r k i : Nat} {x : Int32} (hr : r < sgZ σ) (hk : (sgK σ r).1 = k) (hk3 : k < 30) (ho : r ≠ e0) : ss_H e0 ms mo φ (putI σ k i r x) (putI τ k i (φ r) x) ∧ ss_T e0 φ σ τ φ (putI σ k i r x) (putI τ k i (φ r) x) := by
  obtain ⟨h1, h2, h3, h4, h5, h6, h7⟩ := id h
  refine ⟨⟨h1, h2, h3, h4, fun q hq hq3 => ?_, h6, h7⟩, ⟨rfl, rfl, Nat.le_refl _, Nat.le_refl _⟩, fun _ _ => rfl, fun _ _ => rfl, fun q a b => by have a : sgZ σ ≤ q := a; have b : q < sgZ σ := b; omega, fun _ _ => rfl, fun q hq hn k' i' => ?_⟩
  · obtain ⟨a1, a2, a3⟩ := h5 q hq hq3
    refine ⟨a1, a2, fun j => ⟨?_, (a3 j).2⟩⟩
    show sgI (putI τ k i (φ r) x) (sgK σ q).1 j (φ q) = sgI (putI σ k i r x) (sgK σ q).1 j q
    rw [gI_putI, gI_putI]
    by_cases z : (sgK σ q).1 = k ∧ j = i ∧ q = r
    · rw [if_pos z, if_pos ⟨z.1, z.2.1, congrArg φ z.2.2⟩]
    · rw [if_neg z, if_neg (fun y => z ⟨y.1, y.2.1, h7 q r hq hr hq3 (by rw [hk]; exact hk3) y.2.2⟩)]
      exact (a3 j).1
  · refine ⟨?_, rfl, rfl⟩
    rw [gI_putI, if_neg (fun z => hn r ⟨hr, by rw [hk]; exact hk3, ho⟩ z.2.2.symm)]
theorem ss_wJ (h : ss_H e0 ms mo φ σ τ) {r k i : Nat} {x : Int64} (hr : r < sgZ σ) (hk : (sgK σ r).1 = k) (hk3 : k < 30) (ho : r ≠ e0) : ss_H e0 ms mo φ (putJ σ k i r x) (putJ τ k i (φ r) x) ∧ ss_T e0 φ σ τ φ (putJ σ k i r x) (putJ τ k i (φ r) x) := by
  obtain ⟨h1, h2, h3, h4, h5, h6, h7⟩ := id h
  refine ⟨⟨h1, h2, h3, h4, fun q hq hq3 => ?_, h6, h7⟩, ⟨rfl, rfl, Nat.le_refl _, Nat.le_refl _⟩, fun _ _ => rfl, fun _ _ => rfl, fun q a b => by have a : sgZ σ ≤ q := a; have b : q < sgZ σ := b; omega, fun _ _ => rfl, fun q hq hn k' i' => ?_⟩
  · obtain ⟨a1, a2, a3⟩ := h5 q hq hq3
    refine ⟨a1, a2, fun j => ⟨(a3 j).1, ?_, (a3 j).2.2⟩⟩
    show sgJ (putJ τ k i (φ r) x) (sgK σ q).1 j (φ q) = sgJ (putJ σ k i r x) (sgK σ q).1 j q
    rw [gJ_putJ, gJ_putJ]
    by_cases z : (sgK σ q).1 = k ∧ j = i ∧ q = r
    · rw [if_pos z, if_pos ⟨z.1, z.2.1, congrArg φ z.2.2⟩]
    · rw [if_neg z, if_neg (fun y => z ⟨y.1, y.2.1, h7 q r hq hr hq3 (by rw [hk]; exact hk3) y.2.2⟩)]
      exact (a3 j).2.1
  · refine ⟨rfl, ?_, rfl⟩
    rw [gJ_putJ, if_neg (fun z => hn r ⟨hr, by rw [hk]; exact hk3, ho⟩ z.2.2.symm)]
theorem ss_wR (h : ss_H e0 ms mo φ σ τ) {r k i v : Nat} (hr : r < sgZ σ) (hv : v < sgZ σ) (hk : (sgK σ r).1 = k) (hk3 : k < 30) (ho : r ≠ e0) : ss_H e0 ms mo φ (putR σ k i r v) (putR τ k i (φ r) (φ v)) ∧ ss_T e0 φ σ τ φ (putR σ k i r v) (putR τ k i (φ r) (φ v)) := by
  obtain ⟨h1, h2, h3, h4, h5, h6, h7⟩ := id h
  refine ⟨⟨h1, h2, h3, h4, fun q hq hq3 => ?_, fun k' i' q => ?_, h7⟩, ⟨rfl, rfl, Nat.le_refl _, Nat.le_refl _⟩, fun _ _ => rfl, fun _ _ => rfl, fun q a b => by have a : sgZ σ ≤ q := a; have b : q < sgZ σ := b; omega, fun _ _ => rfl, fun q hq hn k' i' => ?_⟩
  · obtain ⟨a1, a2, a3⟩ := h5 q hq hq3
    refine ⟨a1, a2, fun j => ⟨(a3 j).1, (a3 j).2.1, ?_⟩⟩
    show sgR (putR τ k i (φ r) (φ v)) (sgK σ q).1 j (φ q) = φ (sgR (putR σ k i r v) (sgK σ q).1 j q)
    rw [gR_putR, gR_putR]
    by_cases z : (sgK σ q).1 = k ∧ j = i ∧ q = r
    · rw [if_pos z, if_pos ⟨z.1, z.2.1, congrArg φ z.2.2⟩]
    · rw [if_neg z, if_neg (fun y => z ⟨y.1, y.2.1, h7 q r hq hr hq3 (by rw [hk]; exact hk3) y.2.2⟩)]
      exact (a3 j).2.2
  · show sgR (putR σ k i r v) k' i' q < sgZ σ
    rw [gR_putR]
    split
    · exact hv
    · exact h6 k' i' q
  · refine ⟨rfl, rfl, ?_⟩
    rw [gR_putR, if_neg (fun z => hn r ⟨hr, by rw [hk]; exact hk3, ho⟩ z.2.2.symm)]
theorem ss_wC (h : ss_H e0 ms mo φ σ τ) {src sp dst dp n : Nat} (hs : src < sgZ σ) (hd : dst < sgZ σ) (ks : (sgK σ src).1 = 23) (kd : (sgK σ dst).1 = 23) (ho : dst ≠ e0) : ss_H e0 ms mo φ (cpyC σ src sp dst dp n) (cpyC τ (φ src) sp (φ dst) dp n) ∧ ss_T e0 φ σ τ φ (cpyC σ src sp dst dp n) (cpyC τ (φ src) sp (φ dst) dp n) := by
  obtain ⟨h1, h2, h3, h4, h5, h6, h7⟩ := id h
  obtain ⟨-, -, s3⟩ := ss_kd h hs ks (by decide)
  obtain ⟨-, -, d3⟩ := ss_kd h hd kd (by decide)
  refine ⟨⟨h1, h2, h3, h4, fun q hq hq3 => ?_, fun k' i' q => ?_, h7⟩, ⟨rfl, rfl, Nat.le_refl _, Nat.le_refl _⟩, fun _ _ => rfl, fun _ _ => rfl, fun q a b => by have a : sgZ σ ≤ q := a; have b : q < sgZ σ := b; omega, fun _ _ => rfl, fun q hq hn k' i' => ?_⟩
  · obtain ⟨a1, a2, a3⟩ := h5 q hq hq3
    refine ⟨a1, a2, fun j => ⟨(a3 j).1, (a3 j).2.1, ?_⟩⟩
    show sgR (cpyC τ (φ src) sp (φ dst) dp n) (sgK σ q).1 j (φ q) = φ (sgR (cpyC σ src sp dst dp n) (sgK σ q).1 j q)
    rw [gR_cpy, gR_cpy]
    by_cases z : (sgK σ q).1 = 23 ∧ q = dst
    · rw [if_pos z, if_pos ⟨z.1, congrArg φ z.2⟩]
      unfold va_cpy
      split
      · exact (s3 _).2.2
      · exact (d3 _).2.2
    · rw [if_neg z, if_neg (fun y => z ⟨y.1, h7 q dst hq hd hq3 (by rw [kd]; decide) y.2⟩)]
      exact (a3 j).2.2
  · show sgR (cpyC σ src sp dst dp n) k' i' q < sgZ σ
    rw [gR_cpy]
    split
    · unfold va_cpy
      split
      · exact h6 _ _ _
      · exact h6 _ _ _
    · exact h6 k' i' q
  · refine ⟨rfl, rfl, ?_⟩
    rw [gR_cpy, if_neg (fun z => hn dst ⟨hd, by rw [kd]; decide, ho⟩ z.2.symm)]
/-- the map with one place more -/
def ss_up (φ : Nat → Nat) (z w : Nat) : Nat → Nat := fun q => if q = z then w else φ q
theorem ss_up_lt {z w r : Nat} (h : r < z) : ss_up φ z w r = φ r := if_neg (by omega)
theorem ss_up_at {z w : Nat} : ss_up φ z w z = w := if_pos rfl
theorem ss_z0 (h : ss_H e0 ms mo φ σ τ) : 0 < sgZ τ := by
  obtain ⟨a, -, -⟩ := ss_kd h h.2.1.2.1 (k := 23) (by rw [h.2.1.2.2.2]) (by decide)
  omega
theorem ss_mk (h : ss_H e0 ms mo φ σ τ) (k n : Nat) : ss_H e0 ms mo (ss_up φ (sgZ σ) (sgZ τ)) (mkC σ k n) (mkC τ k n) ∧ ss_T e0 φ σ τ (ss_up φ (sgZ σ) (sgZ τ)) (mkC σ k n) (mkC τ k n) := by
  have z0 := ss_z0 h
  obtain ⟨⟨h11, h12, h13⟩, ⟨h21, h22, h23, h24⟩, h3, h4, h5, h6, h7⟩ := id h
  have kk : ∀ q, q < sgZ σ → sgK (mkC σ k n) q = sgK σ q := fun q hq => by rw [gK_mk, if_neg (by omega)]
  refine ⟨⟨⟨by rw [ss_up_lt h21]; exact h11, by rw [ss_up_lt h22]; exact h12, by rw [ss_up_lt h23]; exact h13⟩, ⟨Nat.lt_succ_of_lt h21, Nat.lt_succ_of_lt h22, Nat.lt_succ_of_lt h23, by rw [kk _ h22]; exact h24⟩, fun r hr => ?_, fun r hr h0 => ?_, fun r hr hr3 => ?_, fun k' i q => ?_, fun r q hr hq kr kq e => ?_⟩, ⟨?_, ?_, Nat.le_succ _, Nat.le_add_right _ _⟩, fun r hr => ss_up_lt hr, kk, fun r a b _ => ?_, fun q hq => by rw [gK_mk, if_neg (by omega)], fun q hq hn k' i' => ?_⟩
  · have hr : sgZ σ + 1 ≤ r := hr
    rw [gK_mk, if_neg (by omega)]
    exact h3 r (by omega)
  · have hr : r < sgZ σ + 1 := hr
    by_cases z : r = sgZ σ
    · subst z; rw [ss_up_at] at h0; omega
    · rw [ss_up_lt (by omega)] at h0; exact h4 r (by omega) h0
  · have hr : r < sgZ σ + 1 := hr
    by_cases z : r = sgZ σ
    · subst z
      rw [ss_up_at]
      have e : sgK (mkC σ k n) (sgZ σ) = (k, n) := by rw [gK_mk, if_pos rfl]
      rw [e]
      refine ⟨Nat.lt_succ_self _, by rw [gK_mk, if_pos rfl], fun i => ⟨?_, ?_, ?_⟩⟩
      · rw [gI_mk, gI_mk, if_pos ⟨rfl, rfl⟩, if_pos ⟨rfl, rfl⟩]
      · rw [gJ_mk, gJ_mk, if_pos ⟨rfl, rfl⟩, if_pos ⟨rfl, rfl⟩]
      · rw [gR_mk, gR_mk, if_pos ⟨rfl, rfl⟩, if_pos ⟨rfl, rfl⟩, ss_up_lt h21]
        exact h11.symm
    · have hr : r < sgZ σ := by omega
      rw [kk r hr] at hr3 ⊢
      rw [ss_up_lt hr]
      obtain ⟨a1, a2, a3⟩ := h5 r hr hr3
      refine ⟨Nat.lt_succ_of_lt a1, by rw [gK_mk, if_neg (by omega)]; exact a2, fun i => ⟨?_, ?_, ?_⟩⟩
      · rw [gI_mk, gI_mk, if_neg (fun y => by omega), if_neg (fun y => by omega)]; exact (a3 i).1
      · rw [gJ_mk, gJ_mk, if_neg (fun y => by omega), if_neg (fun y => by omega)]; exact (a3 i).2.1
      · rw [gR_mk, gR_mk, if_neg (fun y => by omega), if_neg (fun y => by omega), ss_up_lt (h6 _ _ _)]; exact (a3 i).2.2
  · show sgR (mkC σ k n) k' i q < sgZ σ + 1
    rw [gR_mk]
    split
    · omega
    · exact Nat.lt_succ_of_lt (h6 _ _ _)
  · have hr : r < sgZ σ + 1 := hr
    have hq : q < sgZ σ + 1 := hq
    by_cases zr : r = sgZ σ
    · by_cases zq : q = sgZ σ
      · omega
      · rw [zr, ss_up_at, ss_up_lt (by omega)] at e
        rw [kk q (by omega)] at kq
        have := (h5 q (by omega) kq).1
        omega
    · by_cases zq : q = sgZ σ
      · rw [zq, ss_up_at, ss_up_lt (by omega)] at e
        rw [kk r (by omega)] at kr
        have := (h5 r (by omega) kr).1
        omega
      · rw [ss_up_lt (by omega), ss_up_lt (by omega)] at e
        rw [kk r (by omega)] at kr
        rw [kk q (by omega)] at kq
        exact h7 r q (by omega) (by omega) kr kq e
  · show sgZ τ + 1 + sgZ σ = sgZ τ + (sgZ σ + 1); omega
  · show sgU τ + n + sgU σ = sgU τ + (sgU σ + n); omega
  · have b : r < sgZ σ + 1 := b
    obtain rfl : r = sgZ σ := by omega
    rw [ss_up_at]
    exact Nat.le_refl _
  · refine ⟨?_, ?_, ?_⟩
    · rw [gI_mk, if_neg (fun y => by omega)]
    · rw [gJ_mk, if_neg (fun y => by omega)]
    · rw [gR_mk, if_neg (fun y => by omega)]
theorem ss_th (h : ss_H e0 ms mo φ σ τ) : ss_H e0 ms mo (ss_up φ (sgZ σ) (sgZ τ)) (thrC σ) (thrC τ) ∧ ss_T e0 φ σ τ (ss_up φ (sgZ σ) (sgZ τ)) (thrC σ) (thrC τ) := by
  have z0 := ss_z0 h
  obtain ⟨⟨h11, h12, h13⟩, ⟨h21, h22, h23, h24⟩, h3, h4, h5, h6, h7⟩ := id h
  have lt : ∀ r, r < sgZ σ + 1 → (sgK σ r).1 < 30 → r < sgZ σ := fun r hr hk => by
    by_cases z : r = sgZ σ
    · have := h3 r (by omega); omega
    · omega
  refine ⟨⟨⟨by rw [ss_up_lt h21]; exact h11, by rw [ss_up_lt h22]; exact h12, by rw [ss_up_lt h23]; exact h13⟩, ⟨Nat.lt_succ_of_lt h21, Nat.lt_succ_of_lt h22, Nat.lt_succ_of_lt h23, h24⟩, fun r hr => h3 r (Nat.le_of_succ_le hr), fun r hr h0 => ?_, fun r hr hr3 => ?_, fun k' i q => Nat.lt_succ_of_lt (h6 k' i q), fun r q hr hq kr kq e => ?_⟩, ⟨?_, ?_, Nat.le_succ _, Nat.le_add_right _ _⟩, fun r hr => ss_up_lt hr, fun _ _ => rfl, fun r a b c => ?_, fun _ _ => rfl, fun _ _ _ _ _ => ⟨rfl, rfl, rfl⟩⟩
  · have hr : r < sgZ σ + 1 := hr
    by_cases z : r = sgZ σ
    · subst z; rw [ss_up_at] at h0; omega
    · rw [ss_up_lt (by omega)] at h0; exact h4 r (by omega) h0
  · have hr := lt r hr hr3
    rw [ss_up_lt hr]
    obtain ⟨a1, a2, a3⟩ := h5 r hr hr3
    refine ⟨Nat.lt_succ_of_lt a1, a2, fun i => ⟨(a3 i).1, (a3 i).2.1, ?_⟩⟩
    show sgR τ (sgK σ r).1 i (φ r) = ss_up φ (sgZ σ) (sgZ τ) (sgR σ (sgK σ r).1 i r)
    rw [ss_up_lt (h6 _ _ _)]
    exact (a3 i).2.2
  · have hr := lt r hr kr
    have hq := lt q hq kq
    rw [ss_up_lt hr, ss_up_lt hq] at e
    exact h7 r q hr hq kr kq e
  · show sgZ τ + 1 + sgZ σ = sgZ τ + (sgZ σ + 1); omega
  · show sgU τ + 6 + sgU σ = sgU τ + (sgU σ + 6); omega
  · have := lt r b c
    omega
end
end AXSM
