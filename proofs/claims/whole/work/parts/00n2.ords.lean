/-! how many orders there are -/
theorem ord_len : (List.range 9).map (fun m => (fh_ord m).length) = [1, 1, 2, 6, 16, 50, 144, 462, 1392] := by decide +kernel
