/-! THE PURE PART, 32: perform -/
variable {M M' A : Mem} {b b' c h p k k' tl tl' : Nat} {s s' z z' : S3} {Hs : Nat → S3} {f f' : Bool} {q tx tx' : Nat → Nat} {N N' P : Nat → Nat} {D D' : Nat → UInt64}
theorem wd0 : WDt 0 tl tx ↔ tl = 4 ∧ tx 0 = 115 ∧ tx 1 = 116 ∧ tx 2 = 101 ∧ tx 3 = 112 := wd_iff 0 115 116 101 112 (by decide) (by decide +kernel)
theorem wd1 : WDt 1 tl tx ↔ tl = 4 ∧ tx 0 = 116 ∧ tx 1 = 117 ∧ tx 2 = 114 ∧ tx 3 = 110 := wd_iff 1 116 117 114 110 (by decide) (by decide +kernel)
theorem wd2 : WDt 2 tl tx ↔ tl = 4 ∧ tx 0 = 115 ∧ tx 1 = 116 ∧ tx 2 = 111 ∧ tx 3 = 112 := wd_iff 2 115 116 111 112 (by decide) (by decide +kernel)
