/-! What always holds between calls, and what a stage's beginning keeps of it. -/
section AXMO
theorem mB_cong {A A' : MS} (hA : ∀ f r k j, f < 40 → f ≠ 11 → A'.1 f r k j = A.1 f r k j) (h11 : ∀ r, r < mR A → mU A' 11 r = 7 ∨ mU A' 11 r = 8 ∨ mU A' 11 r = 9 ∨ mU A' 11 r = 10 ∨ mU A' 11 r = 5) (hJ : ∀ r k j, r < mR A → mJ A' 0 r k j ≤ 8 ∧ mJ A' 2 r k j ≤ 2 ∧ mJ A' 3 r k j ≤ 4) (h : mB A) : mB A' := by
  obtain ⟨h1, h2, h3, h4, h5, h6⟩ := h
  have eN : mN A' = mN A := hA 0 0 0 0 (by decide) (by decide)
  have eR : mR A' = mR A := hA 10 0 0 0 (by decide) (by decide)
  have eS : ∀ f k, f < 40 → f ≠ 11 → mS A' f k = mS A f k := fun f k a b => hA f k 0 0 a b
  refine ⟨by rw [eN, eR]; exact h1, fun k hk => ?_, fun k => ?_, fun k f hk a b => ?_, fun r hr => ?_, fun r k j hr => ?_⟩
  · rw [eN] at hk ⊢
    rw [eS 1 k (by decide) (by decide), eS 2 k (by decide) (by decide), eS 3 k (by decide) (by decide), eS 4 k (by decide) (by decide)]
    exact h2 k hk
  · rw [eS 5 k (by decide) (by decide), eS 6 k (by decide) (by decide), eS 7 k (by decide) (by decide), eS 8 k (by decide) (by decide), eS 9 k (by decide) (by decide)]
    exact h3 k
  · rw [eN] at hk
    rw [eS f k (by omega) (by omega)]
    exact h4 k f hk a b
  · rw [eR] at hr
    have e := h5 r hr
    rw [show mU A' 12 r = mU A 12 r from hA 12 r 0 0 (by decide) (by decide), show mU A' 13 r = mU A 13 r from hA 13 r 0 0 (by decide) (by decide), show mU A' 14 r = mU A 14 r from hA 14 r 0 0 (by decide) (by decide), show mU A' 15 r = mU A 15 r from hA 15 r 0 0 (by decide) (by decide), show mU A' 16 r = mU A 16 r from hA 16 r 0 0 (by decide) (by decide), eN]
    exact ⟨h11 r hr, e.2⟩
  · rw [eR] at hr
    exact hJ r k j hr
/-- the queue's jobs are those that are queued, of runs that go on -/
def mQI (A : MS) : Prop := (mQ A).Nodup ∧ ∀ p, p ∈ mQ A → pR p < mR A ∧ mG A (pR p) ∧ mJ A 0 (pR p) (pK p) (pJ p) = 1
/-- the workers' jobs are running, of runs that go on -/
def mWI (A : MS) : Prop := (∀ w, 4 ≤ w → mW A w = 0) ∧ (∀ w v, mW A w ≠ 0 → mW A w = mW A v → w = v) ∧ ∀ w p, mW A w = p + 1 → pR p < mR A ∧ mG A (pR p) ∧ mJ A 0 (pR p) (pK p) (pJ p) = 2
/-- absent jobs; runs that are being cancelled; stages that wait -/
def mJI (A : MS) : Prop := (∀ r k j, r < mR A → mU A 16 r ≤ k → mJ A 0 r k j = 8) ∧ (∀ r k j, r < mR A → mU A 11 r = 8 → j < 16 → mJ A 0 r k j ≠ 0 ∧ mJ A 0 r k j ≠ 1) ∧ (∀ r k j j', r < mR A → j < 16 → j' < 16 → mJ A 0 r k j = 0 → mJ A 0 r k j' = 0 ∨ mJ A 0 r k j' = 8)
def mJJ (A : MS) : Prop := (mB A ∧ mPB A ∧ mNow A) ∧ mGo A ≤ 6 ∧ mQI A ∧ mWI A ∧ mJI A ∧ mEB A ∧ A.1 60 0 0 0 = 0
theorem nodup_len {Q : List Nat} : ∀ {L : List Nat}, Q.Nodup → (∀ p, p ∈ Q → p ∈ L) → Q.length ≤ L.length := by
  induction Q with
  | nil => intro L _ _; exact Nat.zero_le _
  | cons a Q ih =>
    intro L hn hm
    obtain ⟨h1, h2⟩ := List.nodup_cons.mp hn
    have ha : a ∈ L := hm a (List.mem_cons_self ..)
    have h3 := ih (L := L.erase a) h2 fun p hp => (List.mem_erase_of_ne (show p ≠ a from fun z => h1 (by rw [← z]; exact hp))).mpr (hm p (List.mem_cons_of_mem _ hp))
    rw [List.length_erase_of_mem ha] at h3
    have h4 : 0 < L.length := List.length_pos_of_mem ha
    show Q.length + 1 ≤ _
    omega
/-- the places of the first n runs that go on -/
def mGL (A : MS) : Nat → List Nat
  | 0 => []
  | n + 1 => mGL A n ++ (bif mGb A n then (List.range 128).map (fun x => 128 * n + x) else [])
theorem mGL_len (A : MS) : ∀ n, (mGL A n).length = 128 * ax_n (mGb A) n := by
  intro n
  induction n with
  | zero => rfl
  | succ n ih =>
    show (mGL A n ++ (bif mGb A n then (List.range 128).map (fun x => 128 * n + x) else [])).length = _
    rw [List.length_append, ih]
    cases q : mGb A n with
    | true => rw [ax_n_yes q]; show _ + ((List.range 128).map _).length = _; rw [List.length_map, List.length_range]; omega
    | false => rw [ax_n_no q]; rfl
theorem mGL_mem (A : MS) {p : Nat} : ∀ n, pR p < n → mGb A (pR p) = true → p ∈ mGL A n := by
  intro n
  induction n with
  | zero => intro h; exact absurd h (Nat.not_lt_zero _)
  | succ n ih =>
    intro h hg
    show p ∈ mGL A n ++ (bif mGb A n then (List.range 128).map (fun x => 128 * n + x) else [])
    rw [List.mem_append]
    rcases Nat.lt_succ_iff_lt_or_eq.mp h with q | q
    · exact Or.inl (ih q hg)
    · right
      rw [← q, hg]
      show p ∈ (List.range 128).map (fun x => 128 * (p / 128) + x)
      exact List.mem_map.mpr ⟨p % 128, List.mem_range.mpr (Nat.mod_lt _ (by decide)), Nat.div_add_mod p 128⟩
theorem mQ_len {A : MS} (h : mGo A ≤ 6) (hQ : mQI A) : (mQ A).length ≤ 768 := by
  have h1 := nodup_len (L := mGL A (mR A)) hQ.1 fun p hp => mGL_mem A _ (hQ.2 p hp).1 (mGb_iff.mpr (hQ.2 p hp).2.1)
  rw [mGL_len] at h1
  have h : ax_n (mGb A) (mR A) ≤ 6 := h
  omega
theorem mPB_cong {A A' : MS} (hA : ∀ f r k j, f < 40 → f ≠ 11 → A'.1 f r k j = A.1 f r k j) (h : mPB A) : mPB A' := by
  have eR : mR A' = mR A := hA 10 0 0 0 (by decide) (by decide)
  intro r k hr hk
  rw [eR] at hr
  rw [show mU A' 16 r = mU A 16 r from hA 16 r 0 0 (by decide) (by decide)] at hk ⊢
  rw [show mP A' 4 r k = mP A 4 r k from hA 24 r k 0 (by decide) (by decide), show mP A' 5 r k = mP A 5 r k from hA 25 r k 0 (by decide) (by decide), show mP A' 6 r k = mP A 6 r k from hA 26 r k 0 (by decide) (by decide), show mP A' 7 r k = mP A 7 r k from hA 27 r k 0 (by decide) (by decide), show mP A' 8 r k = mP A 8 r k from hA 28 r k 0 (by decide) (by decide), show mP A' 9 r k = mP A 9 r k from hA 29 r k 0 (by decide) (by decide)]
  exact h r k hr hk
theorem mNow_cong {A A' : MS} (hA : ∀ f r k j, f < 40 → f ≠ 11 → A'.1 f r k j = A.1 f r k j) (hG : ∀ r, r < mR A → mG A' r → mG A r) (h : mNow A) : mNow A' := by
  have eR : mR A' = mR A := hA 10 0 0 0 (by decide) (by decide)
  intro r hr hg
  rw [eR] at hr
  obtain ⟨h1, h2⟩ := h r hr (hG r hr hg)
  rw [show mU A' 16 r = mU A 16 r from hA 16 r 0 0 (by decide) (by decide), show mN A' = mN A from hA 0 0 0 0 (by decide) (by decide)]
  refine ⟨h1, fun k f hk a b => ?_⟩
  rw [show mP A' f r k = mP A f r k from hA (20 + f) r k 0 (by omega) (by omega), show mS A' f k = mS A f k from hA f k 0 0 (by omega) (by omega)]
  exact h2 k f hk a b
theorem mEB_cong {A A' : MS} (hA : ∀ f r k j, f < 40 → f ≠ 11 → A'.1 f r k j = A.1 f r k j) (hE : mE A' = mE A) (h : mEB A) : mEB A' := by
  refine ⟨by rw [hE]; exact h.1, fun e he => ?_⟩
  rw [hE] at he
  rw [show mN A' = mN A from hA 0 0 0 0 (by decide) (by decide), show mS A' 6 e.1 = mS A 6 e.1 from hA 6 e.1 0 0 (by decide) (by decide)]
  exact h.2 e he
theorem mGo_cong {A A' : MS} (eR : mR A' = mR A) (h : ∀ r, r < mR A → mGb A' r = mGb A r) : mGo A' = mGo A := by
  unfold mGo
  rw [eR]
  exact ax_n_cong h
theorem pl_eq {p r k j : Nat} (hk : k < 8) (hj : j < 16) : p = pl r k j ↔ pR p = r ∧ pK p = k ∧ pJ p = j := by
  show p = 128 * r + 16 * k + j ↔ p / 128 = r ∧ p % 128 / 16 = k ∧ p % 16 = j
  omega
theorem pl_of (p : Nat) : pl (pR p) (pK p) (pJ p) = p ∧ pK p < 8 ∧ pJ p < 16 := by
  show 128 * (p / 128) + 16 * (p % 128 / 16) + p % 16 = p ∧ p % 128 / 16 < 8 ∧ p % 16 < 16
  omega
section
variable {A : MS} {r k j : Nat}
theorem mBeg_at (A : MS) {r k : Nat} {g : Bool} {t j : Nat} (h : mJ A 0 r k j = 0) (hj : j < t) : mJ (mBeg A r k g t) 0 r k j = bif g then 1 else 6 := by
  have e : mJ (mBeg A r k g t) 0 r k j = if g then 1 else 6 := if_pos ⟨rfl, rfl, rfl, hj, h⟩
  rw [e]
  cases g <;> rfl
theorem mBeg_nz (A : MS) {r k : Nat} {g : Bool} {t r' k' j' : Nat} (h : mJ A 0 r' k' j' ≠ 0) : mJ (mBeg A r k g t) 0 r' k' j' = mJ A 0 r' k' j' := if_neg fun z => h (by obtain ⟨_, e1, e2, _, e4⟩ := z; rw [e1, e2]; exact e4)
/-- a job of it has its state, or waited and has begun -/
theorem mBeg_or (A : MS) (r k : Nat) (g : Bool) (t r' k' j' : Nat) : mJ (mBeg A r k g t) 0 r' k' j' = mJ A 0 r' k' j' ∨ (r' = r ∧ k' = k ∧ j' < t ∧ mJ A 0 r k j' = 0 ∧ mJ (mBeg A r k g t) 0 r' k' j' = bif g then 1 else 6) := by
  by_cases z : r' = r ∧ k' = k ∧ j' < t ∧ mJ A 0 r k j' = 0
  · obtain ⟨rfl, rfl, h3, h4⟩ := z
    exact Or.inr ⟨rfl, rfl, h3, h4, mBeg_at A h4 h3⟩
  · exact Or.inl (if_neg fun w => z w.2)
theorem mBeg_lo (A : MS) {r k : Nat} {g : Bool} {t : Nat} : ∀ f r' k' j', f < 40 → f ≠ 11 → (mBeg A r k g t).1 f r' k' j' = A.1 f r' k' j' := fun f r' k' j' a _ => mBeg_f A (by omega) r' k' j'
theorem mB_beg (h : mB A) {g : Bool} {t : Nat} : mB (mBeg A r k g t) := by
  refine mB_cong (mBeg_lo A) (fun r' hr' => ?_) (fun r' k' j' hr' => ?_) h
  · rw [show mU (mBeg A r k g t) 11 r' = mU A 11 r' from mBeg_f A (by decide) r' 0 0]
    exact (h.2.2.2.2.1 r' hr').1
  · obtain ⟨h1, h2, h3⟩ := h.2.2.2.2.2 r' k' j' hr'
    refine ⟨?_, ?_, ?_⟩
    · rcases mBeg_or A r k g t r' k' j' with q | ⟨-, -, -, -, q⟩
      · rw [q]; exact h1
      · rw [q]; cases g <;> decide
    · rw [show mJ (mBeg A r k g t) 2 r' k' j' = mJ A 2 r' k' j' from mBeg_f A (by decide) r' k' j']; exact h2
    · rw [show mJ (mBeg A r k g t) 3 r' k' j' = mJ A 3 r' k' j' from mBeg_f A (by decide) r' k' j']; exact h3
theorem mT_beg (h : mT A) {g : Bool} {t : Nat} : mT (mBeg A r k g t) := fun r' k' j' => by
  rw [show mJ (mBeg A r k g t) 1 r' k' j' = mJ A 1 r' k' j' from mBeg_f A (by decide) r' k' j']
  exact h r' k' j'
theorem mBeg_q {g : Bool} {t p : Nat} (hk : k < 8) (ht : t ≤ 16) : p ∈ mQ (mBeg A r k g t) ↔ p ∈ mQ A ∨ (g = true ∧ pR p = r ∧ pK p = k ∧ pJ p < t ∧ mJ A 0 r k (pJ p) = 0) := by
  show p ∈ (if g then mQ A ++ ((List.range t).filter (fun j => Nat.beq (mJ A 0 r k j) 0)).map (pl r k) else mQ A) ↔ _
  cases g with
  | false => exact ⟨Or.inl, fun h => h.resolve_right fun z => by cases z.1⟩
  | true =>
    rw [if_pos rfl, List.mem_append, List.mem_map]
    refine or_congr Iff.rfl ⟨?_, ?_⟩
    · rintro ⟨j, hj, rfl⟩
      rw [List.mem_filter, List.mem_range] at hj
      obtain ⟨e1, e2, e3⟩ := pl_parts (r := r) hk (show j < 16 by omega)
      refine ⟨rfl, e1, e2, ?_, ?_⟩
      · rw [show pJ (pl r k j) = j from e3]; exact hj.1
      · rw [show pJ (pl r k j) = j from e3]; exact ax_beq hj.2
    · rintro ⟨-, rfl, rfl, h3, h4⟩
      refine ⟨pJ p, ?_, (pl_of p).1⟩
      rw [List.mem_filter, List.mem_range]
      exact ⟨h3, by rw [h4]; rfl⟩
theorem mJJ_beg (h : mJJ A) (hr : r < mR A) (hk : k < mU A 16 r) (h7 : mU A 11 r = 7) (g : Bool) : mJJ (mBeg A r k g 16) := by
  obtain ⟨⟨hB, hP, hN⟩, hGo, hQ, hW, hJ, hE, h60⟩ := h
  have hk8 : k < 8 := by
    have := (hB.2.2.2.2.1 r hr).2.2.2.2.2.2
    have := hB.1.1
    omega
  have eU : ∀ f r', f ≠ 40 → mU (mBeg A r k g 16) f r' = mU A f r' := fun f r' a => mBeg_f A a r' 0 0
  have eR : mR (mBeg A r k g 16) = mR A := eU 10 0 (by decide)
  have eG : ∀ r', mG (mBeg A r k g 16) r' ↔ mG A r' := fun r' => by unfold mG; rw [eU 11 r' (by decide)]
  refine ⟨⟨mB_beg hB, mPB_cong (mBeg_lo A) hP, mNow_cong (mBeg_lo A) (fun r' _ z => (eG r').mp z) hN⟩, ?_, ⟨?_, fun p hp => ?_⟩, ⟨fun w hw => ?_, fun w v h1 h2 => ?_, fun w p h1 => ?_⟩, ⟨fun r' k' j' hr' hk' => ?_, fun r' k' j' hr' h8 hj' => ?_, fun r' k' j1 j2 hr' h1 h2 h3 => ?_⟩, mEB_cong (mBeg_lo A) rfl hE, ?_⟩
  · rw [mGo_cong eR (fun r' _ => by unfold mGb; rw [eU 11 r' (by decide)])]
    exact hGo
  · show (if g then mQ A ++ ((List.range 16).filter (fun j => Nat.beq (mJ A 0 r k j) 0)).map (pl r k) else mQ A).Nodup
    cases g with
    | false => exact hQ.1
    | true =>
      rw [if_pos rfl, List.nodup_append]
      refine ⟨hQ.1, ?_, fun a ha b hb => ?_⟩
      · refine List.pairwise_map.mpr ((List.Nodup.sublist List.filter_sublist List.nodup_range).imp fun {x y} hxy z => hxy ?_)
        have z : 128 * r + 16 * k + x = 128 * r + 16 * k + y := z
        omega
      · obtain ⟨j, hj, rfl⟩ := List.mem_map.mp hb
        rw [List.mem_filter, List.mem_range] at hj
        intro z
        obtain ⟨e1, e2, e3⟩ := pl_parts (r := r) hk8 hj.1
        have h1 := (hQ.2 a ha).2.2
        rw [z, show pR (pl r k j) = r from e1, show pK (pl r k j) = k from e2, show pJ (pl r k j) = j from e3, ax_beq hj.2] at h1
        cases h1
  · rw [eR, eG]
    rcases (mBeg_q hk8 (Nat.le_refl _)).mp hp with q | ⟨rfl, rfl, rfl, h3, h4⟩
    · obtain ⟨h1, h2, h3⟩ := hQ.2 p q
      exact ⟨h1, h2, by rw [mBeg_nz A (by rw [h3]; decide)]; exact h3⟩
    · exact ⟨hr, Or.inl h7, mBeg_at A h4 h3⟩
  · rw [show mW (mBeg A r k g 16) w = mW A w from mBeg_f A (by decide) w 0 0]; exact hW.1 w hw
  · rw [show mW (mBeg A r k g 16) w = mW A w from mBeg_f A (by decide) w 0 0] at h1 h2
    rw [show mW (mBeg A r k g 16) v = mW A v from mBeg_f A (by decide) v 0 0] at h2
    exact hW.2.1 w v h1 h2
  · rw [show mW (mBeg A r k g 16) w = mW A w from mBeg_f A (by decide) w 0 0] at h1
    rw [eR, eG]
    obtain ⟨g1, g2, g3⟩ := hW.2.2 w p h1
    exact ⟨g1, g2, by rw [mBeg_nz A (by rw [g3]; decide)]; exact g3⟩
  · rw [eR] at hr'
    rw [eU 16 r' (by decide)] at hk'
    have h8 := hJ.1 r' k' j' hr' hk'
    rw [mBeg_nz A (by rw [h8]; decide)]
    exact h8
  · rw [eR] at hr'
    rw [eU 11 r' (by decide)] at h8
    have h1 := hJ.2.1 r' k' j' hr' h8 hj'
    rw [mBeg_nz A h1.1]
    exact h1
  · rw [eR] at hr'
    by_cases z : r' = r ∧ k' = k
    · obtain ⟨rfl, rfl⟩ := z
      exfalso
      rcases mBeg_or A r' k' g 16 r' k' j1 with q | ⟨-, -, -, -, q⟩
      · rw [q] at h3
        have := mBeg_at A (g := g) h3 h1
        rw [q, h3] at this
        cases g <;> cases this
      · rw [q] at h3
        cases g <;> cases h3
    · have e : ∀ x, mJ (mBeg A r k g 16) 0 r' k' x = mJ A 0 r' k' x := fun x => mBeg_ge A (fun w => z ⟨w.1, w.2.1⟩)
      rw [e] at h3
      rw [e]
      exact hJ.2.2 r' k' j1 j2 hr' h1 h2 h3
  · rw [mBeg_f A (by decide)]
    exact h60
end
end AXMO
