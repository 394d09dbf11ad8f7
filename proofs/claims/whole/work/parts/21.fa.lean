/-! THE PURE PART, 2: doubles: what the class and the reference compute with -/
def dcz (z : UInt64) : UInt64 := if 0 ≤ Op.cmpValue (FP.dcmp z FP.dconst0) CmpOp.g then z else FP.dconst0
def dec1 (lk : Int32) (by_ p : UInt64) : UInt64 := dcz (FP.dsub p (FP.ddiv (FP.dmul p (FP.i2d lk)) by_))
def decn (lk : Int32) (by_ p : UInt64) : Nat → UInt64
  | 0 => p
  | n + 1 => dec1 lk by_ (decn lk by_ p n)
/-- a pressure: from 0.0 to 1000.0 -/
def PZ (p : UInt64) : Prop := p.toNat ≤ 4652007308841189376
def BY (vol : Nat) : UInt64 := FP.dmul 4652007308841189376 (FP.i2d (nI vol))
/-- a gain behind so many tests; a factor -/
def GR (n : Nat) (g : UInt64) : Prop := 4607182418800017408 ≤ g.toNat + n * 35184372088832 ∧ g.toNat ≤ 4607182418800017408
def FR (f : UInt64) : Prop := f.toNat % 2 ^ 63 < 1200 * 2 ^ 52
def vlE (a b g f : UInt64) (vol n : Nat) : UInt64 := FP.dmul (FP.dmul (FP.ddiv (FP.dmul (FP.dsub a b) (FP.i2d (nI vol))) (FP.i2d (nI n))) g) f
def gnE (g : UInt64) (wear : Nat) : UInt64 := FP.dmul g (FP.dsub FP.dconst1 (FP.ddiv (FP.i2d (nI wear)) 4696837146684686336))
def exE (P q : UInt64) (n : Nat) : UInt64 := FP.ddiv (FP.dmul (FP.dsub P q) 4636737291354636288) (FP.i2d (nI n))
def fcE (e g : UInt64) : UInt64 := FP.ddiv e (FP.dmul e g)
theorem by100 : BY 100 = 4681608360884174848 := by decide +kernel
theorem PZ0 : PZ FP.dconst0 := by unfold PZ; decide
theorem by_ok {vol : Nat} (h1 : 1 ≤ vol) (h2 : vol ≤ 999) : vf_n64 (BY vol) := sorry
theorem dec_ok {lk vol : Nat} {p : UInt64} (h : PZ p) (hl : lk ≤ 99999) (h1 : 1 ≤ vol) (h2 : vol ≤ 999) : vf_n64 (FP.dmul p (FP.i2d (nI lk))) ∧ vf_n64 (FP.ddiv (FP.dmul p (FP.i2d (nI lk))) (BY vol)) ∧ vf_n64 (FP.dsub p (FP.ddiv (FP.dmul p (FP.i2d (nI lk))) (BY vol))) ∧ PZ (dec1 (nI lk) (BY vol) p) := sorry
theorem decn_ok {lk vol : Nat} {p : UInt64} (h : PZ p) (hl : lk ≤ 99999) (h1 : 1 ≤ vol) (h2 : vol ≤ 999) (n : Nat) : PZ (decn (nI lk) (BY vol) p n) := by
  induction n with
  | zero => exact h
  | succ n ih => exact (dec_ok ih hl h1 h2).2.2.2
theorem val_ok {a b g f : UInt64} {vol n m : Nat} (ha : PZ a) (hb : PZ b) (hv : vol ≤ 999) (h1 : 1 ≤ n) (h7 : n ≤ 7) (hg : GR m g) (hf : FR f) : vf_n64 (FP.dsub a b) ∧ vf_n64 (FP.dmul (FP.dsub a b) (FP.i2d (nI vol))) ∧ vf_n64 (FP.ddiv (FP.dmul (FP.dsub a b) (FP.i2d (nI vol))) (FP.i2d (nI n))) ∧ vf_n64 (FP.dmul (FP.ddiv (FP.dmul (FP.dsub a b) (FP.i2d (nI vol))) (FP.i2d (nI n))) g) ∧ vf_n64 (vlE a b g f vol n) := sorry
theorem half_ok {a : UInt64} (ha : PZ a) : vf_n64 (FP.ddiv a 4611686018427387904) := sorry
theorem gain_ok {m wear : Nat} {g : UInt64} (hg : GR m g) (hm : m ≤ 20480) (hw : wear ≤ 1000) : vf_n64 (FP.ddiv (FP.i2d (nI wear)) 4696837146684686336) ∧ vf_n64 (FP.dsub FP.dconst1 (FP.ddiv (FP.i2d (nI wear)) 4696837146684686336)) ∧ vf_n64 (gnE g wear) ∧ GR (m + 1) (gnE g wear) := sorry
theorem cal_ok {P g : UInt64} {lk n m : Nat} (hP : PZ P) (hP1 : 4607182418800017408 ≤ P.toNat) (hl1 : 1 ≤ lk) (hl : lk ≤ 99999) (h1 : 1 ≤ n) (h7 : n ≤ 7) (hg : GR m g) (hm : m ≤ 20480) : vf_n64 (FP.dsub P (decn (nI lk) (BY 100) P n)) ∧ vf_n64 (FP.dmul (FP.dsub P (decn (nI lk) (BY 100) P n)) 4636737291354636288) ∧ vf_n64 (exE P (decn (nI lk) (BY 100) P n) n) ∧ vf_n64 (FP.dmul (exE P (decn (nI lk) (BY 100) P n) n) g) ∧ vf_n64 (fcE (exE P (decn (nI lk) (BY 100) P n) n) g) ∧ FR (fcE (exE P (decn (nI lk) (BY 100) P n) n) g) ∧ ¬ Op.cmpValue (FP.dcmp g 118622047889322841) CmpOp.l ≤ 0 := sorry
