theorem ts_all_ok : ∀ j, j < 176 → ts_jok j := sorry
theorem ts_code_ok : ∀ j, j < 175 → Cond.code (ts_mt j).2.1 (ts_mt j).2.2.1 (ts_mt j).2.2.2.1 (ts_mt j).2.2.2.2 ∈ ts_G := sorry
