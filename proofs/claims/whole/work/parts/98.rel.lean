/-! the relation of the two worlds, and that every call keeps it -/
theorem rel_ok : ∃ Rel : sS → sS → Prop, Rel σX0 σM1 ∧ AllSt Rel :=
  ⟨RelS, rel_start, st_letter, st_value, st_check, st_part, st_path, st_puts, st_drops, st_faults, st_fault, st_coded, st_below, st_waits, st_first, st_limited, st_total, st_same, st_different, st_often, st_without, st_mend, st_range, st_loss, st_mean, st_which, st_row, st_judge, st_clear, st_lots, st_image, st_on, st_count⟩
