def wRun : MV := fr 100000 9 10 0 (am_loc (am_nl 10) [vR (.inl 0)]) [] (1, [.inl (8, (am_ft 8).map am_def)])
theorem tst : (match wRun with | some (_, w) => Nat.beq w.1 169 | none => false) = true := by decide +kernel
