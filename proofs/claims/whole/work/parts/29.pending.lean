/-! pending: taken away line by line as parts 24 to 28 prove them -/
theorem p_text : P_text := sorry
theorem p_luck : P_luck := sorry
theorem p_mean : P_mean := sorry
theorem p_kinds : P_kinds := sorry
theorem p_grips : P_grips := sorry
theorem p_starts : P_starts := sorry
theorem p_ask : P_ask := sorry
