theorem tw_o {x : Int32} {hi : Int} (n : Nat) (he : (n : Int) = hi) (hn : n < 2 ^ 31) (h : ∀ k, k ≤ n → ¬ x = nI k) : x.toInt < 0 ∨ hi < x.toInt := he ▸ tw_out n hn h
/-- never -/
def nvr : Prop := False
