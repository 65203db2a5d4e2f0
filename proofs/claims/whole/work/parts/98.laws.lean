theorem law_ok (L : Nat) (xs : Nat → Int32) (hL : L ≤ 2560) : Ca n_L_law [vR (some 0)] (st0 L xs) (fun v τ => v = some (vI 1) ∧ gn τ ≤ 600000 ∧ gl τ ≤ 7302250) := sorry
