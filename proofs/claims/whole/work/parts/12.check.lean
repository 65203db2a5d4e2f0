theorem ck_all : ∀ j, j < 194 → ∀ pc e, code_of j pc = some e → ckE j pc e = true := sorry
