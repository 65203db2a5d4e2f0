theorem law_ok (L : Nat) (xs : Nat → Int32) (_ : L ≤ 260) : Ca n_L_law [vR (some 0)] (st0 L xs) (fun v τ => v = some (vI 1) ∧ gn τ ≤ 600000 ∧ gl τ ≤ 7302250) := law_of cld_ok L xs
