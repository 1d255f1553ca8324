/-! The law answers 1 on the abstract machine, from its start. -/
section AXLAW
/-- the heap at the law's start: the script and the list's empty row -/
def ax_s0 (B b e0 L : Nat) (xs : Nat → Int32) : SG := ((B + 1, 0), (fun r => if r = b + 1 then (25, L) else if r = e0 then (23, 0) else (99, 0)), (fun _ i _ => xs i), (fun _ _ _ => 0), (fun _ _ _ => 0))
theorem ax_law {e0 mo B b L : Nat} {xs : Nat → Int32} (hL : L ≤ 260) (hb : b < B) (h1 : 0 < e0) (h2 : e0 ≤ B) (h3 : e0 ≠ b + 1) (hm : 0 < mo) : ∃ (n : Nat) (σ' : SG), ax_ex e0 mo n 14 195 (0, ax_entry 195 [aR (b + 1)], []) (ax_s0 B b e0 L xs) = some (.inl (aI 1), σ') ∧ sgZ σ' - (B + 1) ≤ room_1.cells ∧ sgU σ' ≤ room_1.slots := by
  have ks : sgK (ax_s0 B b e0 L xs) (b + 1) = (25, L) := if_pos rfl
  have ke : sgK (ax_s0 B b e0 L xs) e0 = (23, 0) := (if_neg h3).trans (if_pos rfl)
  obtain ⟨n, r, σ', e, rfl, b1, b2⟩ := law_wp (mo := mo) ks (show b + 1 < B + 1 by omega) ke (show e0 < B + 1 by omega) h1 (Ne.symm h3) (fun _ => rfl) hm (show L < 2 ^ 31 by omega)
  have b1 : sgZ σ' ≤ B + 1 + 15 + 190000 := b1
  have b2 : sgU σ' ≤ 0 + 48 + 2600000 := b2
  exact ⟨n, σ', e, Nat.le_trans (show sgZ σ' - (B + 1) ≤ 190015 by omega) (Nat.le_of_ble_eq_true rfl), Nat.le_trans (show sgU σ' ≤ 2600048 by omega) (Nat.le_of_ble_eq_true rfl)⟩
end AXLAW
