/-! The reference and its state when one row is written. Printed by wip/whole/gen34.py. -/
section AXMG
section
variable {e0 mo : Nat} {σ σ1 : SG} {m : Nat} {M : Nat → Nat} {A : MS} {r k j : Nat}
/-- σ1 is σ but for the row a of the reference and its number b -/
def ax_but (σ σ1 : SG) (m : Nat) (M : Nat → Nat) (a b : Nat) : Prop := sgK σ1 = sgK σ ∧ sgJ σ1 = sgJ σ ∧ sgR σ1 = sgR σ ∧ (∀ k i q, ¬ (k = 20 ∧ q = M a) → ¬ (k = 7 ∧ i = b ∧ q = m) → sgI σ1 k i q = sgI σ k i q)
theorem ax_but.refl (σ : SG) (m : Nat) (M : Nat → Nat) (a b : Nat) : ax_but σ σ m M a b := ⟨rfl, rfl, rfl, fun _ _ _ _ _ => rfl⟩
theorem ax_but.put {a b i : Nat} {v : Int32} (h : ax_but σ σ1 m M a b) : ax_but σ (putI σ1 20 i (M a) v) m M a b := ⟨h.1, h.2.1, h.2.2.1, fun k' i' q' n1 n2 => by rw [gI_putI, if_neg (fun z => n1 ⟨z.1, z.2.2⟩)]; exact h.2.2.2 k' i' q' n1 n2⟩
theorem ax_but.num {a b : Nat} {v : Int32} (h : ax_but σ σ1 m M a b) : ax_but σ (putI σ1 7 b m v) m M a b := ⟨h.1, h.2.1, h.2.2.1, fun k' i' q' n1 n2 => by rw [gI_putI, if_neg (fun z => n2 z)]; exact h.2.2.2 k' i' q' n1 n2⟩
theorem ax_but.shape {a b : Nat} (h : ax_but σ σ1 m M a b) (h0 : ax_rmS σ m M) : ax_rmS σ1 m M := by
  obtain ⟨g1, g2, g3⟩ := h0
  exact ⟨by rw [h.1]; exact g1, fun i hi => by rw [h.2.2.1, h.1]; exact g2 i hi, g3⟩
theorem rm_apart (h0 : ax_rmS σ m M) {i a : Nat} (hi : ax_mr i) (ha : ax_mr a) (hn : i ≠ a) : M i ≠ M a := fun z => hn (h0.2.2 i a hi ha z)
theorem rm_qu (h : ax_rm σ m M A) (hb : ax_but σ σ1 m M 18 19) {qs : List Nat} (e1 : sgI σ1 7 19 m = nI qs.length) (e2 : ∀ i, i < qs.length → sgI σ1 20 i (M 18) = nI (qs.getD i 0)) : ax_rm σ1 m M (A.1, qs, A.2.2) := by
  have ha : ax_mr 18 := (mr_of (by decide) (by decide) (by decide) (by decide))
  obtain ⟨h0, ⟨c1, c2, c3, c4⟩, h2, h3, h4, h5, h6, h7, h8, h9⟩ := h
  have hO := hb.2.2.2
  refine ⟨hb.shape h0, ⟨?_, ?_, ?_, ?_⟩, fun f k p1 p2 p3 => ?_, fun r hr => ?_, fun r hr => ?_, fun r hr hg hx => ?_, fun r k j hr hk hj => ?_, fun i hi => ?_, fun w hw => ?_, fun i hi => ?_⟩
  · exact (hO 7 0 m (fun z => absurd z.1 (by decide)) (fun z => absurd z.2.1 (by decide))).trans c1
  · exact (hO 7 10 m (fun z => absurd z.1 (by decide)) (fun z => absurd z.2.1 (by decide))).trans c2
  · exact e1
  · exact (hO 7 22 m (fun z => absurd z.1 (by decide)) (fun z => absurd z.2.1 (by decide))).trans c4
  · rw [hO _ _ _ (fun z => by
      rcases Nat.lt_or_ge f 7 with q | q
      · exact rm_apart h0 (mr_of (by omega) (by omega) (by omega) (by omega)) ha (by omega) z.2
      · have := z.1; rw [if_neg (by omega)] at this; omega) (fun z => by have := z.1; split at this <;> omega)]
    exact h2 f k p1 p2 p3
  · obtain ⟨d1, d2, d3, d4⟩ := h3 r hr
    exact ⟨(hO 20 _ _ (fun z => (rm_apart h0 (i := 11) (mr_of (by decide) (by decide) (by decide) (by decide)) ha (by decide)) z.2) (fun z => absurd z.1 (by decide))).trans d1, (hO 20 _ _ (fun z => (rm_apart h0 (i := 12) (mr_of (by decide) (by decide) (by decide) (by decide)) ha (by decide)) z.2) (fun z => absurd z.1 (by decide))).trans d2, (hO 20 _ _ (fun z => (rm_apart h0 (i := 13) (mr_of (by decide) (by decide) (by decide) (by decide)) ha (by decide)) z.2) (fun z => absurd z.1 (by decide))).trans d3, (hO 20 _ _ (fun z => (rm_apart h0 (i := 14) (mr_of (by decide) (by decide) (by decide) (by decide)) ha (by decide)) z.2) (fun z => absurd z.1 (by decide))).trans d4⟩
  · rw [hb.2.1, mNeeds_cong (A := A) (A' := (A.1, qs, A.2.2)) (fun _ => rfl)]
    exact h4 r hr
  · rw [mGoods_cong (A := A) (A' := (A.1, qs, A.2.2)) (fun _ _ => rfl) (fun _ => rfl)]
    exact (hO 20 _ _ (fun z => (rm_apart h0 (i := 16) (mr_of (by decide) (by decide) (by decide) (by decide)) ha (by decide)) z.2) (fun z => absurd z.1 (by decide))).trans (h5 r hr hg hx)
  · exact (hO 20 _ _ (fun z => (rm_apart h0 (i := 17) (mr_of (by decide) (by decide) (by decide) (by decide)) ha (by decide)) z.2) (fun z => absurd z.1 (by decide))).trans (h6 r k j hr hk hj)
  · exact e2 i hi
  · exact (hO 20 _ _ (fun z => (rm_apart h0 (i := 20) (mr_of (by decide) (by decide) (by decide) (by decide)) ha (by decide)) z.2) (fun z => absurd z.1 (by decide))).trans (h8 w hw)
  · exact (hO 20 _ _ (fun z => (rm_apart h0 (i := 21) (mr_of (by decide) (by decide) (by decide) (by decide)) ha (by decide)) z.2) (fun z => absurd z.1 (by decide))).trans (h9 i hi)
theorem rm_en (h : ax_rm σ m M A) (hb : ax_but σ σ1 m M 21 22) {es : List (Nat × Nat)} (e1 : sgI σ1 7 22 m = nI es.length) (e2 : ∀ i, i < es.length → sgI σ1 20 i (M 21) = nI (10 * (es.getD i (0, 0)).2 + (es.getD i (0, 0)).1)) : ax_rm σ1 m M (A.1, A.2.1, es) := by
  have ha : ax_mr 21 := (mr_of (by decide) (by decide) (by decide) (by decide))
  obtain ⟨h0, ⟨c1, c2, c3, c4⟩, h2, h3, h4, h5, h6, h7, h8, h9⟩ := h
  have hO := hb.2.2.2
  refine ⟨hb.shape h0, ⟨?_, ?_, ?_, ?_⟩, fun f k p1 p2 p3 => ?_, fun r hr => ?_, fun r hr => ?_, fun r hr hg hx => ?_, fun r k j hr hk hj => ?_, fun i hi => ?_, fun w hw => ?_, fun i hi => ?_⟩
  · exact (hO 7 0 m (fun z => absurd z.1 (by decide)) (fun z => absurd z.2.1 (by decide))).trans c1
  · exact (hO 7 10 m (fun z => absurd z.1 (by decide)) (fun z => absurd z.2.1 (by decide))).trans c2
  · exact (hO 7 19 m (fun z => absurd z.1 (by decide)) (fun z => absurd z.2.1 (by decide))).trans c3
  · exact e1
  · rw [hO _ _ _ (fun z => by
      rcases Nat.lt_or_ge f 7 with q | q
      · exact rm_apart h0 (mr_of (by omega) (by omega) (by omega) (by omega)) ha (by omega) z.2
      · have := z.1; rw [if_neg (by omega)] at this; omega) (fun z => by have := z.1; split at this <;> omega)]
    exact h2 f k p1 p2 p3
  · obtain ⟨d1, d2, d3, d4⟩ := h3 r hr
    exact ⟨(hO 20 _ _ (fun z => (rm_apart h0 (i := 11) (mr_of (by decide) (by decide) (by decide) (by decide)) ha (by decide)) z.2) (fun z => absurd z.1 (by decide))).trans d1, (hO 20 _ _ (fun z => (rm_apart h0 (i := 12) (mr_of (by decide) (by decide) (by decide) (by decide)) ha (by decide)) z.2) (fun z => absurd z.1 (by decide))).trans d2, (hO 20 _ _ (fun z => (rm_apart h0 (i := 13) (mr_of (by decide) (by decide) (by decide) (by decide)) ha (by decide)) z.2) (fun z => absurd z.1 (by decide))).trans d3, (hO 20 _ _ (fun z => (rm_apart h0 (i := 14) (mr_of (by decide) (by decide) (by decide) (by decide)) ha (by decide)) z.2) (fun z => absurd z.1 (by decide))).trans d4⟩
  · rw [hb.2.1, mNeeds_cong (A := A) (A' := (A.1, A.2.1, es)) (fun _ => rfl)]
    exact h4 r hr
  · rw [mGoods_cong (A := A) (A' := (A.1, A.2.1, es)) (fun _ _ => rfl) (fun _ => rfl)]
    exact (hO 20 _ _ (fun z => (rm_apart h0 (i := 16) (mr_of (by decide) (by decide) (by decide) (by decide)) ha (by decide)) z.2) (fun z => absurd z.1 (by decide))).trans (h5 r hr hg hx)
  · exact (hO 20 _ _ (fun z => (rm_apart h0 (i := 17) (mr_of (by decide) (by decide) (by decide) (by decide)) ha (by decide)) z.2) (fun z => absurd z.1 (by decide))).trans (h6 r k j hr hk hj)
  · exact (hO 20 _ _ (fun z => (rm_apart h0 (i := 18) (mr_of (by decide) (by decide) (by decide) (by decide)) ha (by decide)) z.2) (fun z => absurd z.1 (by decide))).trans (h7 i hi)
  · exact (hO 20 _ _ (fun z => (rm_apart h0 (i := 20) (mr_of (by decide) (by decide) (by decide) (by decide)) ha (by decide)) z.2) (fun z => absurd z.1 (by decide))).trans (h8 w hw)
  · exact e2 i hi
theorem rm_wk (h : ax_rm σ m M A) (hb : ax_but σ σ1 m M 20 24) {A1 : MS} (hA : ∀ f r k j, f ≠ 50 → A1.1 f r k j = A.1 f r k j) (hA2 : A1.2 = A.2) (e2 : ∀ w, w < 4 → sgI σ1 20 w (M 20) = nI (mW A1 w) - 1) : ax_rm σ1 m M A1 := by
  have ha : ax_mr 20 := (mr_of (by decide) (by decide) (by decide) (by decide))
  obtain ⟨h0, ⟨c1, c2, c3, c4⟩, h2, h3, h4, h5, h6, h7, h8, h9⟩ := h
  have hO := hb.2.2.2
  obtain ⟨B1, q1, q2⟩ := A1
  obtain ⟨B, q3, q4⟩ := A
  cases hA2
  have eq : B1 = fun f r k j => if f = 50 then B1 50 r k j else B f r k j := by
    funext f r k j
    by_cases z : f = 50
    · subst z; rw [if_pos rfl]
    · rw [if_neg z]; exact hA f r k j z
  have hU : ∀ f r k j, f ≠ 50 → B1 f r k j = B f r k j := hA
  refine ⟨hb.shape h0, ⟨?_, ?_, ?_, ?_⟩, fun f k p1 p2 p3 => ?_, fun r hr => ?_, fun r hr => ?_, fun r hr hg hx => ?_, fun r k j hr hk hj => ?_, fun i hi => ?_, fun w hw => ?_, fun i hi => ?_⟩
  · rw [show mN ((B1, q1, q2) : MS) = mN ((B, q1, q2) : MS) from hU 0 0 0 0 (by decide)]; exact (hO 7 0 m (fun z => absurd z.1 (by decide)) (fun z => absurd z.2.1 (by decide))).trans c1
  · rw [show mR ((B1, q1, q2) : MS) = mR ((B, q1, q2) : MS) from hU 10 0 0 0 (by decide)]; exact (hO 7 10 m (fun z => absurd z.1 (by decide)) (fun z => absurd z.2.1 (by decide))).trans c2
  · exact (hO 7 19 m (fun z => absurd z.1 (by decide)) (fun z => absurd z.2.1 (by decide))).trans c3
  · exact (hO 7 22 m (fun z => absurd z.1 (by decide)) (fun z => absurd z.2.1 (by decide))).trans c4
  · rw [hO _ _ _ (fun z => by
      rcases Nat.lt_or_ge f 7 with q | q
      · exact rm_apart h0 (mr_of (by omega) (by omega) (by omega) (by omega)) ha (by omega) z.2
      · have := z.1; rw [if_neg (by omega)] at this; omega) (fun z => by have := z.1; split at this <;> omega), show mS ((B1, q1, q2) : MS) f k = mS ((B, q1, q2) : MS) f k from hU f k 0 0 (by omega)]
    exact h2 f k p1 p2 p3
  · have hr : r < mR ((B, q1, q2) : MS) := by rw [← show mR ((B1, q1, q2) : MS) = mR ((B, q1, q2) : MS) from hU 10 0 0 0 (by decide)]; exact hr
    obtain ⟨d1, d2, d3, d4⟩ := h3 r hr
    have u : ∀ f, f ≠ 50 → mU ((B1, q1, q2) : MS) f r = mU ((B, q1, q2) : MS) f r := fun f hf => hU f r 0 0 hf
    unfold mInp at d3 ⊢
    rw [u 11 (by decide), u 12 (by decide), u 13 (by decide), u 14 (by decide), u 15 (by decide), u 16 (by decide)]
    exact ⟨(hO 20 _ _ (fun z => (rm_apart h0 (i := 11) (mr_of (by decide) (by decide) (by decide) (by decide)) ha (by decide)) z.2) (fun z => absurd z.1 (by decide))).trans d1, (hO 20 _ _ (fun z => (rm_apart h0 (i := 12) (mr_of (by decide) (by decide) (by decide) (by decide)) ha (by decide)) z.2) (fun z => absurd z.1 (by decide))).trans d2, (hO 20 _ _ (fun z => (rm_apart h0 (i := 13) (mr_of (by decide) (by decide) (by decide) (by decide)) ha (by decide)) z.2) (fun z => absurd z.1 (by decide))).trans d3, (hO 20 _ _ (fun z => (rm_apart h0 (i := 14) (mr_of (by decide) (by decide) (by decide) (by decide)) ha (by decide)) z.2) (fun z => absurd z.1 (by decide))).trans d4⟩
  · have hr : r < mR ((B, q1, q2) : MS) := by rw [← show mR ((B1, q1, q2) : MS) = mR ((B, q1, q2) : MS) from hU 10 0 0 0 (by decide)]; exact hr
    rw [hb.2.1, show mU ((B1, q1, q2) : MS) 16 r = mU ((B, q1, q2) : MS) 16 r from hU 16 r 0 0 (by decide), mNeeds_cong (A := (B, q1, q2)) (fun k => hU 24 r k 0 (by decide))]
    exact h4 r hr
  · have hr : r < mR ((B, q1, q2) : MS) := by rw [← show mR ((B1, q1, q2) : MS) = mR ((B, q1, q2) : MS) from hU 10 0 0 0 (by decide)]; exact hr
    have hg : ¬ mG ((B, q1, q2) : MS) r := by
      unfold mG at hg ⊢
      rw [← show mU ((B1, q1, q2) : MS) 11 r = mU ((B, q1, q2) : MS) 11 r from hU 11 r 0 0 (by decide)]
      exact hg
    rw [show mU ((B1, q1, q2) : MS) 16 r = mU ((B, q1, q2) : MS) 16 r from hU 16 r 0 0 (by decide), mGoods_cong (A := (B, q1, q2)) (fun k j => hU 40 r k j (by decide)) (fun k => hU 28 r k 0 (by decide))]
    exact (hO 20 _ _ (fun z => (rm_apart h0 (i := 16) (mr_of (by decide) (by decide) (by decide) (by decide)) ha (by decide)) z.2) (fun z => absurd z.1 (by decide))).trans (h5 r hr hg (fun z => hx (z.trans (hU 60 0 0 0 (by decide)).symm)))
  · have hr : r < mR ((B, q1, q2) : MS) := by rw [← show mR ((B1, q1, q2) : MS) = mR ((B, q1, q2) : MS) from hU 10 0 0 0 (by decide)]; exact hr
    have e := h6 r k j hr hk hj
    unfold mC at e ⊢
    rw [show mJ ((B1, q1, q2) : MS) 0 r k j = mJ ((B, q1, q2) : MS) 0 r k j from hU 40 r k j (by decide), show mJ ((B1, q1, q2) : MS) 1 r k j = mJ ((B, q1, q2) : MS) 1 r k j from hU 41 r k j (by decide), show mJ ((B1, q1, q2) : MS) 2 r k j = mJ ((B, q1, q2) : MS) 2 r k j from hU 42 r k j (by decide), show mJ ((B1, q1, q2) : MS) 3 r k j = mJ ((B, q1, q2) : MS) 3 r k j from hU 43 r k j (by decide)]
    exact (hO 20 _ _ (fun z => (rm_apart h0 (i := 17) (mr_of (by decide) (by decide) (by decide) (by decide)) ha (by decide)) z.2) (fun z => absurd z.1 (by decide))).trans e
  · exact (hO 20 _ _ (fun z => (rm_apart h0 (i := 18) (mr_of (by decide) (by decide) (by decide) (by decide)) ha (by decide)) z.2) (fun z => absurd z.1 (by decide))).trans (h7 i hi)
  · exact e2 w hw
  · exact (hO 20 _ _ (fun z => (rm_apart h0 (i := 21) (mr_of (by decide) (by decide) (by decide) (by decide)) ha (by decide)) z.2) (fun z => absurd z.1 (by decide))).trans (h9 i hi)
end
end AXMG
