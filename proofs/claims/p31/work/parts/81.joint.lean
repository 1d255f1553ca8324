/-! Two objects of the class in one heap: each is one of a small heap of its own. -/
section AXJJ
/-- the object a of τ is the object x of the small heap σ -/
def jS (e0 ms mo : Nat) (φ : Nat → Nat) (σ τ : SG) (x : Nat) (L : LY) (A : MS) (a : Nat) : Prop := ss_H e0 ms mo φ σ τ ∧ ax_rc e0 σ x L A ∧ φ x = a
/-- w isn't a cell of σ -/
def jN (e0 : Nat) (φ : Nat → Nat) (σ : SG) (w : Nat) : Prop := ∀ r, ss_O e0 σ r → φ r ≠ w
/-- two objects, apart; ws: what is the law's; Z, U: room -/
def jj (e0 ms mo : Nat) (τ : SG) (a b : Nat) (A B : MS) (ws : List Nat) (Z U : Nat) : Prop :=
  ∃ (φ : Nat → Nat) (σ : SG) (x : Nat) (L : LY) (φ' : Nat → Nat) (σ' : SG) (x' : Nat) (L' : LY),
    jS e0 ms mo φ σ τ x L A a ∧ jS e0 ms mo φ' σ' τ x' L' B b ∧ (∀ r s, ss_O e0 σ r → ss_O e0 σ' s → φ r ≠ φ' s) ∧
    (∀ w ∈ ws, w < sgZ τ ∧ jN e0 φ σ w ∧ jN e0 φ' σ' w) ∧ sgZ τ ≤ Z + lRho L + lRho L' ∧ sgU τ ≤ U + 4 * lRho L + 4 * lRho L'
/-- the law's cells stand as they stood -/
def jK (τ τ2 : SG) (ws : List Nat) : Prop := sgZ τ ≤ sgZ τ2 ∧ ∀ w ∈ ws, sgK τ2 w = sgK τ w ∧ ∀ k i, sgI τ2 k i w = sgI τ k i w
section
variable {e0 ms mo : Nat} {τ τ2 : SG} {a b : Nat} {A B A2 : MS} {ws : List Nat} {Z U : Nat} {φ φ' φ2 : Nat → Nat} {σ σ' σ2 : SG} {x x' : Nat} {L L' L2 : LY}
theorem jK.refl : jK τ τ ws := ⟨Nat.le_refl _, fun _ _ => ⟨rfl, fun _ _ => rfl⟩⟩
theorem jK.trans {τ3 : SG} (h : jK τ τ2 ws) (k : jK τ2 τ3 ws) : jK τ τ3 ws := ⟨Nat.le_trans h.1 k.1, fun w hw => ⟨(k.2 w hw).1.trans (h.2 w hw).1, fun i j => ((k.2 w hw).2 i j).trans ((h.2 w hw).2 i j)⟩⟩
theorem jj_swap (h : jj e0 ms mo τ a b A B ws Z U) : jj e0 ms mo τ b a B A ws Z U := by
  obtain ⟨φ, σ, x, L, φ', σ', x', L', h1, h2, h3, h4, h5, h6⟩ := h
  exact ⟨φ', σ', x', L', φ, σ, x, L, h2, h1, fun r s hr hs e => h3 s r hs hr e.symm, fun w hw => ⟨(h4 w hw).1, (h4 w hw).2.2, (h4 w hw).2.1⟩, by omega, by omega⟩
/-- a small heap lies in what its place has become, where nothing of it was touched -/
theorem ss_stay (h : ss_H e0 ms mo φ σ τ) (hZ : sgZ τ ≤ sgZ τ2) (hK : ∀ q, q < sgZ τ → sgK τ2 q = sgK τ q) (hf : ∀ r, r < sgZ σ → (sgK σ r).1 < 30 → ∀ k i, sgI τ2 k i (φ r) = sgI τ k i (φ r) ∧ sgJ τ2 k i (φ r) = sgJ τ k i (φ r) ∧ sgR τ2 k i (φ r) = sgR τ k i (φ r)) : ss_H e0 ms mo φ σ τ2 := by
  obtain ⟨h1, h2, h3, h4, h5, h6, h7⟩ := h
  refine ⟨h1, h2, h3, h4, fun r hr hk => ?_, h6, h7⟩
  obtain ⟨a1, a2, a3⟩ := h5 r hr hk
  refine ⟨Nat.lt_of_lt_of_le a1 hZ, (hK _ a1).trans a2, fun i => ?_⟩
  obtain ⟨b1, b2, b3⟩ := hf r hr hk (sgK σ r).1 i
  exact ⟨b1.trans (a3 i).1, b2.trans (a3 i).2.1, b3.trans (a3 i).2.2⟩
theorem ss_ne0 (h : ss_H e0 ms mo φ σ τ) {r : Nat} (hr : ss_O e0 σ r) : φ r ≠ e0 := fun z => hr.2.2 (h.2.2.2.2.2.2 r e0 hr.1 h.2.1.2.1 hr.2.1 (by rw [h.2.1.2.2.2]; decide) (z.trans h.1.2.1.symm))
/-- what a call of the first object leaves of all -/
theorem jj_next (h1 : jS e0 ms mo φ σ τ x L A a) (h2 : jS e0 ms mo φ' σ' τ x' L' B b) (h3 : ∀ r s, ss_O e0 σ r → ss_O e0 σ' s → φ r ≠ φ' s) (h4 : ∀ w ∈ ws, w < sgZ τ ∧ jN e0 φ σ w ∧ jN e0 φ' σ' w) (h5 : sgZ τ ≤ Z + lRho L + lRho L') (h6 : sgU τ ≤ U + 4 * lRho L + 4 * lRho L')
    (k1 : ss_H e0 ms mo φ2 σ2 τ2) (t : ss_T e0 φ σ τ φ2 σ2 τ2) (rc : ax_rc e0 σ2 x L2 A2) {c u : Nat} (hz : sgZ σ2 + lRho L ≤ sgZ σ + lRho L2 + c) (hu : sgU σ2 + 4 * lRho L ≤ sgU σ + 4 * lRho L2 + u) : jj e0 ms mo τ2 a b A2 B ws (Z + c) (U + u) ∧ jK τ τ2 ws := by
  obtain ⟨⟨t1, t2, t3, t3'⟩, t4, t5, t6, t7, t8⟩ := t
  have zz : sgZ τ ≤ sgZ τ2 := by omega
  have O2 : ∀ r, ss_O e0 σ2 r → (ss_O e0 σ r ∧ φ2 r = φ r) ∨ sgZ τ ≤ φ2 r := fun r hr => by
    obtain ⟨c1, c2, c3⟩ := hr
    by_cases z : r < sgZ σ
    · rw [t5 r z] at c2
      exact Or.inl ⟨⟨z, c2, c3⟩, t4 r z⟩
    · exact Or.inr (t6 r (by omega) c1 c2)
  have st : ss_H e0 ms mo φ' σ' τ2 := ss_stay h2.1 zz t7 fun r hr hk => by
    have lt := (ss_kd h2.1 hr rfl hk).1
    refine t8 _ lt fun s hs => ?_
    by_cases z : r = e0
    · rw [z, h2.1.1.2.1]
      exact ss_ne0 h1.1 hs
    · exact h3 s r hs ⟨hr, hk, z⟩
  refine ⟨⟨φ2, σ2, x, L2, φ', σ', x', L', ⟨k1, rc, ?_⟩, ⟨st, h2.2⟩, fun r s hr hs => ?_, fun w hw => ?_, by omega, by omega⟩, zz, fun w hw => ?_⟩
  · have xlt : x < sgZ σ := (rc_hb h1.2.1).2.2.1
    rw [t4 x xlt]
    exact h1.2.2
  · rcases O2 r hr with ⟨c1, c2⟩ | c
    · rw [c2]; exact h3 r s c1 hs
    · have := (ss_kd h2.1 hs.1 rfl hs.2.1).1
      omega
  · obtain ⟨w1, w2, w3⟩ := h4 w hw
    refine ⟨by omega, fun r hr => ?_, w3⟩
    rcases O2 r hr with ⟨c1, c2⟩ | c
    · rw [c2]; exact w2 r c1
    · omega
  · obtain ⟨w1, w2, w3⟩ := h4 w hw
    exact ⟨t7 w w1, fun k i => (t8 w w1 w2 k i).1⟩
theorem ss_ints (φ : Nat → Nat) (is : List Int32) : (is.map aI).map (ss_m φ) = is.map aI := by
  rw [List.map_map]
  rfl
theorem ss_ints_ok (z : Nat) (is : List Int32) : ss_l z (is.map aI) := fun v hv => by
  obtain ⟨i, -, rfl⟩ := List.mem_map.mp hv
  exact trivial
/-- a call of the first object that may write -/
theorem jj_po (hck : ∀ y pc en, ax_code y pc = some en → ss_e en = true) {y hh : Nat} {is : List Int32} {X : List Nat} {o : OC} (h : jj e0 ms mo τ a b A B ws Z U) (c : ∀ (σ : SG) (x : Nat) (L : LY), ax_rc e0 σ x L A → sgK σ e0 = (23, 0) → ax_wp e0 ms hh y (0, ax_entry y (aR x :: is.map aI), []) σ (cl_po e0 σ x L X o)) :
    ax_wp e0 mo hh y (0, ax_entry y (aR a :: is.map aI), []) τ (ax_ct (fun v τ2 => o.1.1 = 0 ∧ v = aI o.1.2 ∧ jj e0 ms mo τ2 a b o.2 B ws (Z + 390) (U + 6000) ∧ jK τ τ2 ws) (fun E τ2 => 1 ≤ o.1.1 ∧ E = X.getD (o.1.1 - 1) 9 ∧ jj e0 ms mo τ2 a b A B ws (Z + 1) (U + 6) ∧ jK τ τ2 ws)) := by
  obtain ⟨φ, σ, x, L, φ', σ', x', L', h1, h2, h3, h4, h5, h6⟩ := h
  have xlt : x < sgZ σ := (rc_hb h1.2.1).2.2.1
  have g := ss_wp (mo := mo) hck h1.1 (ss_cons (v := aR x) xlt (ss_ints_ok _ is)) (c σ x L h1.2.1 h1.1.2.1.2.2.2)
  have e : (aR x :: is.map aI).map (ss_m φ) = aR a :: is.map aI := by
    show aR (φ x) :: (is.map aI).map (ss_m φ) = _
    rw [ss_ints, h1.2.2]
  rw [e] at g
  refine ax_post g fun r τ2 hr => ?_
  obtain ⟨φ2, r0, σ2, q, rfl, k1, t, -⟩ := hr
  rcases r0 with v | E
  · obtain ⟨q0, rfl, L2, rc, fr⟩ := q
    exact ⟨q0, rfl, jj_next h1 h2 h3 h4 h5 h6 k1 t rc fr.2.1 fr.2.2⟩
  · obtain ⟨q0, q1, rfl⟩ := q
    refine ⟨q0, q1, jj_next h1 h2 h3 h4 h5 h6 k1 t (rc_F h1.2.1 (W := fun _ _ _ => False) ((ax_F.refl _ _).thr) (fun _ _ _ z => z.elim)) ?_ ?_⟩
    · show sgZ σ + 1 + lRho L ≤ sgZ σ + lRho L + 1; omega
    · show sgU σ + 6 + 4 * lRho L ≤ sgU σ + 4 * lRho L + 6; omega
theorem jj_pu (hck : ∀ y pc en, ax_code y pc = some en → ss_e en = true) {y hh : Nat} {is : List Int32} {X : List Nat} {o : OC} (h : jj e0 ms mo τ a b A B ws Z U) (c : ∀ (σ : SG) (x : Nat) (L : LY), ax_rc e0 σ x L A → sgK σ e0 = (23, 0) → ax_wp e0 ms hh y (0, ax_entry y (aR x :: is.map aI), []) σ (cl_pu e0 σ x L X o)) :
    ax_wp e0 mo hh y (0, ax_entry y (aR a :: is.map aI), []) τ (ax_ct (fun v τ2 => o.1.1 = 0 ∧ v = aU ∧ jj e0 ms mo τ2 a b o.2 B ws (Z + 390) (U + 6000) ∧ jK τ τ2 ws) (fun E τ2 => 1 ≤ o.1.1 ∧ E = X.getD (o.1.1 - 1) 9 ∧ jj e0 ms mo τ2 a b A B ws (Z + 1) (U + 6) ∧ jK τ τ2 ws)) := by
  obtain ⟨φ, σ, x, L, φ', σ', x', L', h1, h2, h3, h4, h5, h6⟩ := h
  have xlt : x < sgZ σ := (rc_hb h1.2.1).2.2.1
  have g := ss_wp (mo := mo) hck h1.1 (ss_cons (v := aR x) xlt (ss_ints_ok _ is)) (c σ x L h1.2.1 h1.1.2.1.2.2.2)
  have e : (aR x :: is.map aI).map (ss_m φ) = aR a :: is.map aI := by
    show aR (φ x) :: (is.map aI).map (ss_m φ) = _
    rw [ss_ints, h1.2.2]
  rw [e] at g
  refine ax_post g fun r τ2 hr => ?_
  obtain ⟨φ2, r0, σ2, q, rfl, k1, t, -⟩ := hr
  rcases r0 with v | E
  · obtain ⟨q0, rfl, L2, rc, fr⟩ := q
    exact ⟨q0, rfl, jj_next h1 h2 h3 h4 h5 h6 k1 t rc fr.2.1 fr.2.2⟩
  · obtain ⟨q0, q1, rfl⟩ := q
    refine ⟨q0, q1, jj_next h1 h2 h3 h4 h5 h6 k1 t (rc_F h1.2.1 (W := fun _ _ _ => False) ((ax_F.refl _ _).thr) (fun _ _ _ z => z.elim)) ?_ ?_⟩
    · show sgZ σ + 1 + lRho L ≤ sgZ σ + lRho L + 1; omega
    · show sgU σ + 6 + 4 * lRho L ≤ sgU σ + 4 * lRho L + 6; omega
/-- a call of the first object that only reads -/
theorem jj_ro (hck : ∀ y pc en, ax_code y pc = some en → ss_e en = true) {y hh : Nat} {is : List Int32} {X : List Nat} {o : OC} (h : jj e0 ms mo τ a b A B ws Z U) (c : ∀ (σ : SG) (x : Nat) (L : LY), ax_rc e0 σ x L A → ax_wp e0 ms hh y (0, ax_entry y (aR x :: is.map aI), []) σ (cl_ro σ X o)) :
    ax_wp e0 mo hh y (0, ax_entry y (aR a :: is.map aI), []) τ (ax_ct (fun v τ2 => o.1.1 = 0 ∧ v = aI o.1.2 ∧ jj e0 ms mo τ2 a b A B ws Z U ∧ jK τ τ2 ws) (fun E τ2 => 1 ≤ o.1.1 ∧ E = X.getD (o.1.1 - 1) 9 ∧ jj e0 ms mo τ2 a b A B ws (Z + 1) (U + 6) ∧ jK τ τ2 ws)) := by
  obtain ⟨φ, σ, x, L, φ', σ', x', L', h1, h2, h3, h4, h5, h6⟩ := h
  have xlt : x < sgZ σ := (rc_hb h1.2.1).2.2.1
  have g := ss_wp (mo := mo) hck h1.1 (ss_cons (v := aR x) xlt (ss_ints_ok _ is)) (c σ x L h1.2.1)
  have e : (aR x :: is.map aI).map (ss_m φ) = aR a :: is.map aI := by
    show aR (φ x) :: (is.map aI).map (ss_m φ) = _
    rw [ss_ints, h1.2.2]
  rw [e] at g
  refine ax_post g fun r τ2 hr => ?_
  obtain ⟨φ2, r0, σ2, q, rfl, k1, t, -⟩ := hr
  rcases r0 with v | E
  · obtain ⟨q0, rfl, rfl⟩ := q
    exact ⟨q0, rfl, jj_next (c := 0) (u := 0) h1 h2 h3 h4 h5 h6 k1 t h1.2.1 (Nat.le_refl _) (Nat.le_refl _)⟩
  · obtain ⟨q0, q1, rfl⟩ := q
    refine ⟨q0, q1, jj_next h1 h2 h3 h4 h5 h6 k1 t (rc_F h1.2.1 (W := fun _ _ _ => False) ((ax_F.refl _ _).thr) (fun _ _ _ z => z.elim)) ?_ ?_⟩
    · show sgZ σ + 1 + lRho L ≤ sgZ σ + lRho L + 1; omega
    · show sgU σ + 6 + 4 * lRho L ≤ sgU σ + 4 * lRho L + 6; omega
/-- the law makes a row of its own -/
theorem jj_mk (h : jj e0 ms mo τ a b A B ws Z U) (k n : Nat) : jj e0 ms mo (mkC τ k n) a b A B (sgZ τ :: ws) (Z + 1) (U + n) := by
  obtain ⟨φ, σ, x, L, φ', σ', x', L', h1, h2, h3, h4, h5, h6⟩ := h
  have st : ∀ {φ : Nat → Nat} {σ : SG}, ss_H e0 ms mo φ σ τ → ss_H e0 ms mo φ σ (mkC τ k n) := fun {φ σ} g => ss_stay g (Nat.le_succ _) (fun q hq => by rw [gK_mk, if_neg (by omega)]) fun r hr hk k' i => by
    have lt := (ss_kd g hr rfl hk).1
    refine ⟨?_, ?_, ?_⟩
    · rw [gI_mk, if_neg (fun y => by omega)]
    · rw [gJ_mk, if_neg (fun y => by omega)]
    · rw [gR_mk, if_neg (fun y => by omega)]
  have nw : ∀ {φ : Nat → Nat} {σ : SG}, ss_H e0 ms mo φ σ τ → jN e0 φ σ (sgZ τ) := fun {φ σ} g r hr => by
    have := (ss_kd g hr.1 rfl hr.2.1).1
    omega
  refine ⟨φ, σ, x, L, φ', σ', x', L', ⟨st h1.1, h1.2⟩, ⟨st h2.1, h2.2⟩, h3, fun w hw => ?_, by show sgZ τ + 1 ≤ _; omega, by show sgU τ + n ≤ _; omega⟩
  rcases List.mem_cons.mp hw with rfl | hw
  · exact ⟨Nat.lt_succ_self _, nw h1.1, nw h2.1⟩
  · exact ⟨Nat.lt_succ_of_lt (h4 w hw).1, (h4 w hw).2⟩
/-- the law writes into a row of its own -/
theorem jj_wI (h : jj e0 ms mo τ a b A B ws Z U) {w : Nat} (hw : w ∈ ws) (he : w ≠ e0) (k i : Nat) (v : Int32) : jj e0 ms mo (putI τ k i w v) a b A B ws Z U := by
  obtain ⟨φ, σ, x, L, φ', σ', x', L', h1, h2, h3, h4, h5, h6⟩ := h
  have st : ∀ {φ : Nat → Nat} {σ : SG}, jN e0 φ σ w → ss_H e0 ms mo φ σ τ → ss_H e0 ms mo φ σ (putI τ k i w v) := fun {φ σ} n g => ss_stay g (Nat.le_refl _) (fun _ _ => rfl) fun r hr hk k' i' => by
    refine ⟨?_, rfl, rfl⟩
    rw [gI_putI, if_neg (fun y => ?_)]
    by_cases z : r = e0
    · rw [z, g.1.2.1] at y
      exact he y.2.2.symm
    · exact n r ⟨hr, hk, z⟩ y.2.2
  exact ⟨φ, σ, x, L, φ', σ', x', L', ⟨st (h4 w hw).2.1 h1.1, h1.2⟩, ⟨st (h4 w hw).2.2 h2.1, h2.2⟩, h3, h4, h5, h6⟩
/-- room may be more -/
theorem jj_le (h : jj e0 ms mo τ a b A B ws Z U) {Z' U' : Nat} (hZ : Z ≤ Z') (hU : U ≤ U') : jj e0 ms mo τ a b A B ws Z' U' := by
  obtain ⟨φ, σ, x, L, φ', σ', x', L', h1, h2, h3, h4, h5, h6⟩ := h
  exact ⟨φ, σ, x, L, φ', σ', x', L', h1, h2, h3, h4, by omega, by omega⟩
-- the start
/-- a small heap with nothing but the lists' empty row; behind it the place that stands for the class object -/
def sb (e0 : Nat) (τ : SG) : SG := ((e0 + 2, 0), (fun r => if r = e0 then (23, 0) else (99, 0)), sgI τ, sgJ τ, fun _ _ _ => 0)
def sbm (e0 mo : Nat) : Nat → Nat := fun r => if r = e0 + 1 then mo else r
theorem sb_H (h0 : 0 < e0) (he : e0 < sgZ τ) (hk : sgK τ e0 = (23, 0)) (hr : ∀ i, sgR τ 23 i e0 = 0) (hm : 0 < mo) : ss_H e0 (e0 + 1) mo (sbm e0 mo) (sb e0 τ) τ := by
  have k0 : sgK (sb e0 τ) e0 = (23, 0) := if_pos rfl
  have kn : ∀ r, r ≠ e0 → sgK (sb e0 τ) r = (99, 0) := fun r h => if_neg h
  have z0 : sgZ (sb e0 τ) = e0 + 2 := rfl
  have m0 : sbm e0 mo e0 = e0 := if_neg (by omega)
  have one : ∀ r, (sgK (sb e0 τ) r).1 < 30 → r = e0 := fun r h => by
    by_cases z : r = e0
    · exact z
    · rw [kn r z] at h; exact absurd h (by decide)
  refine ⟨⟨if_neg (by omega), m0, if_pos rfl⟩, ⟨by omega, by omega, by omega, k0⟩, fun r h => ?_, fun r _ h => ?_, fun r _ hk' => ?_, fun k i r => by show 0 < e0 + 2; omega, fun r q hr hq kr kq _ => (one r kr).trans (one q kq).symm⟩
  · rw [kn r (by omega)]; exact Nat.le_of_ble_eq_true rfl
  · unfold sbm at h
    by_cases z : r = e0 + 1
    · rw [if_pos z] at h; omega
    · rw [if_neg z] at h; exact h
  · obtain rfl := one r hk'
    rw [m0, k0]
    refine ⟨he, hk, fun i => ⟨rfl, rfl, ?_⟩⟩
    show sgR τ 23 i r = sbm r mo 0
    rw [hr i]
    exact (if_neg (by omega)).symm
/-- an object is made -/
theorem jj_one (hck : ∀ y pc en, ax_code y pc = some en → ss_e en = true) (h0 : 0 < e0) (he : e0 < sgZ τ) (hk : sgK τ e0 = (23, 0)) (hr : ∀ i, sgR τ 23 i e0 = 0) (hm : 0 < mo) :
    ax_ok e0 mo 4 32 [aR (sgZ τ)] (mkC τ 6 5) (fun v τ2 => v = aU ∧ (∃ (φ : Nat → Nat) (σ : SG) (x : Nat) (L : LY), jS e0 (e0 + 1) mo φ σ τ2 x L mS0 (sgZ τ) ∧ (∀ r, ss_O e0 σ r → sgZ τ ≤ φ r)) ∧ sgZ τ2 = sgZ τ + 7 ∧ sgU τ2 = sgU τ + 22 ∧ ∀ q, q < sgZ τ → sgK τ2 q = sgK τ q ∧ ∀ k i, sgI τ2 k i q = sgI τ k i q ∧ sgJ τ2 k i q = sgJ τ k i q ∧ sgR τ2 k i q = sgR τ k i q) := by
  have H := sb_H (mo := mo) h0 he hk hr hm
  have k0 : sgK (sb e0 τ) e0 = (23, 0) := if_pos rfl
  have zb : sgZ (sb e0 τ) = e0 + 2 := rfl
  obtain ⟨H1, T1⟩ := ss_mk H 6 5
  have kx : sgK (mkC (sb e0 τ) 6 5) (sgZ (sb e0 τ)) = (6, 5) := by rw [gK_mk, if_pos rfl]
  have g := ss_wp (mo := mo) hck H1 (as := [aR (sgZ (sb e0 τ))]) (ss_cons (v := aR (sgZ (sb e0 τ))) (Nat.lt_succ_self _) (fun v hv => absurd hv List.not_mem_nil)) (ct_32 (mo := e0 + 1) kx (Nat.lt_succ_self _) (by omega) (by rw [gK_mk, if_neg (by omega)]; exact k0) (by show e0 < sgZ (sb e0 τ) + 1; omega))
  have e : [aR (sgZ (sb e0 τ))].map (ss_m (ss_up (sbm e0 mo) (sgZ (sb e0 τ)) (sgZ τ))) = [aR (sgZ τ)] := by
    show [aR (ss_up (sbm e0 mo) (sgZ (sb e0 τ)) (sgZ τ) (sgZ (sb e0 τ)))] = _
    rw [ss_up_at]
  rw [e] at g
  refine ax_post g fun r τ2 hr2 => ?_
  obtain ⟨φ2, r0, σ2, q, rfl, k1, t, -⟩ := hr2
  rcases r0 with v | E
  · obtain ⟨rfl, ⟨L, rc⟩, -, q1, q2⟩ := q
    have T := T1.trans t
    have q1 : sgZ σ2 = e0 + 2 + 1 + 6 := q1
    have q2 : sgU σ2 = 0 + 5 + 17 := q2
    have a1 := T.1.1
    have a2 := T.1.2.1
    rw [zb] at a1
    have a2 : sgU τ2 + 0 = sgU τ + sgU σ2 := a2
    have xlt : sgZ (sb e0 τ) < sgZ (mkC (sb e0 τ) 6 5) := Nat.lt_succ_self _
    refine ⟨rfl, ⟨φ2, σ2, _, L, ⟨k1, rc, ?_⟩, fun r hr3 => ?_⟩, by omega, by omega, fun q hq => ⟨T.2.2.2.2.1 q hq, T.2.2.2.2.2 q hq fun r hr3 => ?_⟩⟩
    · rw [t.2.1 _ xlt, ss_up_at]
    · obtain ⟨c1, c2, c3⟩ := hr3
      by_cases z : r < sgZ (sb e0 τ)
      · rw [T.2.2.1 r z] at c2
        exact absurd c2 (by rw [show sgK (sb e0 τ) r = (99, 0) from if_neg c3]; decide)
      · exact T.2.2.2.1 r (by omega) c1 c2
    · exact absurd hr3.2.1 (by rw [show sgK (sb e0 τ) r = (99, 0) from if_neg hr3.2.2]; decide)
  · exact q.elim
end
end AXJJ
