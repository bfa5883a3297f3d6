/-! three bits of a step -/
theorem pk_ok : (List.range 2048).all (fun w => (List.range 13).all (fun t => decide (4 * w / 2 ^ (12 - t) % 8 % 2 = pb w t ∧ 4 * w / 2 ^ (12 - t) % 8 / 2 % 2 = pb1 w t ∧ 4 * w / 2 ^ (12 - t) % 8 / 4 % 2 = pb2 w t))) = true := by decide +kernel
theorem pk_is {w t : Nat} (hw : w < 2048) (ht : t < 13) : 4 * w / 2 ^ (12 - t) % 8 % 2 = pb w t ∧ 4 * w / 2 ^ (12 - t) % 8 / 2 % 2 = pb1 w t ∧ 4 * w / 2 ^ (12 - t) % 8 / 4 % 2 = pb2 w t := pall2 pk_ok hw ht
