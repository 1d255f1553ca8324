/-! The law's loop. Printed by wip/whole/gen79r.py. -/
section AXLWF
theorem and31 (x : Int32) : ∃ n, n < 32 ∧ x &&& 31 = nI n := by
  refine ⟨(x &&& 31).toBitVec.toNat, ?_, ?_⟩
  · have : (x &&& 31).toBitVec.toNat = x.toBitVec.toNat &&& 31 := by simp
    rw [this]
    exact Nat.lt_of_le_of_lt Nat.and_le_right (by decide)
  · apply Int32.toBitVec_inj.mp
    simp [nI]
section
variable {e0 mo scr x m ou len : Nat} {M : Nat → Nat} {B U n : Nat} {σ : SG} {L : LY} {A : MS}
theorem lw_next (h : lw e0 scr x m ou len M B U n σ L A) : lw e0 scr x m ou len M B U (n + 1) σ L A := by
  obtain ⟨h1, h2, h3, h4, h5, h6, h7, h8⟩ := h
  exact ⟨lw_up h1, h2, h3, h4, h5, h6, by omega, by omega⟩
theorem lw_sw {v : Int32} {i : Int32} {l5 l6 : AV} {Q : Res → SG → Prop} (h : lw e0 scr x m ou len M B U n σ L A) (hn : n < 1000) (in1 : ∀ s : SG, sgK s scr = (25, len) → ax_in s 25 scr (i + 1)) (in2 : ∀ s : SG, sgK s scr = (25, len) → ax_in s 25 scr (i + 2)) (in3 : ∀ s : SG, sgK s scr = (25, len) → ax_in s 25 scr (i + 3)) (in4 : ∀ s : SG, sgK s scr = (25, len) → ax_in s 25 scr (i + 4)) (k : ∀ σ3 L' A' l5 l6, lw e0 scr x m ou len M B U (n + 1) σ3 L' A' → ax_wp e0 mo 14 195 (1894, [aR scr, aR x, aR m, aR ou, aI i, l5, l6], []) σ3 Q) : ax_wp e0 mo 14 195 (39, [aR scr, aR x, aR m, aR ou, aI i, l5, l6], [aI (v &&& 31)]) σ Q := by
  obtain ⟨t, ht, e⟩ := and31 v
  rw [e]
  have c : t = 0 ∨ t = 1 ∨ t = 2 ∨ t = 3 ∨ t = 4 ∨ t = 5 ∨ t = 6 ∨ t = 7 ∨ t = 8 ∨ t = 9 ∨ t = 10 ∨ t = 11 ∨ t = 12 ∨ t = 13 ∨ t = 14 ∨ t = 15 ∨ t = 16 ∨ t = 17 ∨ t = 18 ∨ t = 19 ∨ t = 20 ∨ t = 21 ∨ t = 22 ∨ t = 23 ∨ t = 24 ∨ t = 25 ∨ t = 26 ∨ t = 27 ∨ t = 28 ∨ t = 29 ∨ t = 30 ∨ t = 31 := by omega
  rcases c with rfl | rfl | rfl | rfl | rfl | rfl | rfl | rfl | rfl | rfl | rfl | rfl | rfl | rfl | rfl | rfl | rfl | rfl | rfl | rfl | rfl | rfl | rfl | rfl | rfl | rfl | rfl | rfl | rfl | rfl | rfl | rfl
  · exact sg_195_sw0 (d := 13) (lw_c164 h hn in1 in2 in3 in4 k)
  · exact sg_195_sw1 (d := 13) (lw_c232 h hn in1 in2 in3 in4 k)
  · exact sg_195_sw2 (d := 13) (lw_c300 h hn in1 in2 in3 in4 k)
  · exact sg_195_sw3 (d := 13) (lw_c380 h hn in1 in2 in3 in4 k)
  · exact sg_195_sw4 (d := 13) (lw_c460 h in1 in2 in3 in4 k)
  · exact sg_195_sw5 (d := 13) (lw_c580 h k)
  · exact sg_195_sw6 (d := 13) (lw_c593 h hn in1 in2 in3 in4 k)
  · exact sg_195_sw7 (d := 13) (lw_c649 h hn in1 in2 in3 in4 k)
  · exact sg_195_sw8 (d := 13) (lw_c724 h hn in1 in2 in3 in4 k)
  · exact sg_195_sw9 (d := 13) (lw_c816 h hn in1 in2 in3 in4 k)
  · exact sg_195_sw10 (d := 13) (lw_c872 h k)
  · exact sg_195_sw11 (d := 13) (lw_c885 h hn in1 in2 in3 in4 k)
  · exact sg_195_sw12 (d := 13) (lw_c941 h hn in1 in2 in3 in4 k)
  · exact sg_195_sw13 (d := 13) (lw_c1021 h hn in1 in2 in3 in4 k)
  · exact sg_195_sw14 (d := 13) (lw_c1101 h hn in1 in2 in3 in4 k)
  · exact sg_195_sw15 (d := 13) (lw_c1181 h hn in1 in2 in3 in4 k)
  · exact sg_195_sw16 (d := 13) (lw_c1256 h hn in1 in2 in3 in4 k)
  · exact sg_195_sw17 (d := 13) (lw_c1324 h k)
  · exact sg_195_sw18 (d := 13) (lw_c1337 h hn in1 in2 in3 in4 k)
  · exact sg_195_sw19 (d := 13) (lw_c1393 h hn in1 in2 in3 in4 k)
  · exact sg_195_sw20 (d := 13) (lw_c1449 h hn in1 in2 in3 in4 k)
  · exact sg_195_sw21 (d := 13) (lw_c1505 h hn in1 in2 in3 in4 k)
  · exact sg_195_sw22 (d := 13) (lw_c1589 h hn in1 in2 in3 in4 k)
  · exact sg_195_sw23 (d := 13) (lw_c1645 h hn in1 in2 in3 in4 k)
  · exact sg_195_sw24 (d := 13) (lw_c1701 h hn in1 in2 in3 in4 k)
  · exact sg_195_sw25 (d := 13) (lw_c1757 h k)
  · exact sg_195_sw26 (d := 13) (lw_c1770 h hn in1 in2 in3 in4 k)
  · exact sg_195_sw27 (d := 13) (lw_c1826 h hn in1 in2 in3 in4 k)
  · exact sg_195_sw28 (d := 13) (k _ _ _ _ _ (lw_next h))
  · exact sg_195_sw29 (d := 13) (k _ _ _ _ _ (lw_next h))
  · exact sg_195_sw30 (d := 13) (k _ _ _ _ _ (lw_next h))
  · exact sg_195_sw31 (d := 13) (k _ _ _ _ _ (lw_next h))
theorem lw_loop (hlen : len ≤ 2560) {Q : Res → SG → Prop} (hQ : ∀ n σ' L' A', n ≤ 512 → lw e0 scr x m ou len M B U n σ' L' A' → Q (.inl (aI 1)) σ') : ∀ d n (σ : SG) (L : LY) (A : MS) (l5 l6 : AV), n + d = 512 → lw e0 scr x m ou len M B U n σ L A → ax_wp e0 mo 14 195 (23, [aR scr, aR x, aR m, aR ou, aI (nI (5 * n)), l5, l6], []) σ Q := by
  have stop : ∀ n (σ : SG) (L : LY) (A : MS) (l5 l6 : AV), n ≤ 512 → len < 5 * n + 5 → lw e0 scr x m ou len M B U n σ L A → ax_wp e0 mo 14 195 (23, [aR scr, aR x, aR m, aR ou, aI (nI (5 * n)), l5, l6], []) σ Q := fun n σ L A l5 l6 hn hl h => by
    have k3 := h.2.2.2.1.2.2
    refine sg_195_23 (d := 13) ?_
    rw [k3]
    have lt : nI len - 5 < nI (5 * n) := by
      rw [Int32.lt_iff_toInt_lt, show (5 : Int32) = nI 5 from rfl, pk_sub_toInt (by omega) (by decide), nI_toInt (by omega)]
      omega
    exact ⟨⟨show (20 : Nat) ≤ 25 by decide, show (25 : Nat) < 26 by decide⟩, fun _ => ⟨Or.inr rfl, hQ n σ L A hn h⟩, fun z => absurd lt z⟩
  intro d
  induction d with
  | zero => intro n σ L A l5 l6 hn h; exact stop n σ L A l5 l6 (by omega) (by omega) h
  | succ d ih =>
    intro n σ L A l5 l6 hn h
    by_cases hl : len < 5 * n + 5
    · exact stop n σ L A l5 l6 (by omega) hl h
    · have k3 := h.2.2.2.1.2.2
      refine sg_195_23 (d := 13) ?_
      rw [k3, show (5 : Int32) = nI 5 from rfl, show nI (25, len).2 - nI 5 = nI (len - 5) from pk_sub (by omega)]
      refine ⟨⟨show (20 : Nat) ≤ 25 by decide, show (25 : Nat) < 26 by decide⟩, fun z => absurd z (nI_nlt (by omega) (by omega)), fun _ => ⟨ax_in_nI k3 (by omega) (by omega), ?_⟩⟩
      have inj : ∀ (j : Nat), j ≤ 4 → ∀ s : SG, sgK s scr = (25, len) → ax_in s 25 scr (nI (5 * n) + nI j) := fun j hj s hs => by
        rw [nI_add]; exact ax_in_nI hs (by omega) (by omega)
      refine lw_sw h (by omega) (inj 1 (by decide)) (inj 2 (by decide)) (inj 3 (by decide)) (inj 4 (by decide)) (fun σ3 L' A' l5' l6' h3 => ?_)
      refine sg_195_1894 (d := 13) ?_
      rw [show (5 : Int32) = nI 5 from rfl, nI_add, show 5 * n + 5 = 5 * (n + 1) by omega]
      exact ih (n + 1) σ3 L' A' l5' l6' (by omega) h3
end
end AXLWF
