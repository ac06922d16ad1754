/-! the relation of the two worlds, and that every call keeps it -/
theorem rel_ok : ∃ Rel : sS → sS → Prop, Rel σX0 σM1 ∧ AllSt Rel := sorry
