/-! OPEN: what is still owed of the pure part -/
theorem rl_step : Ok_step Rl := sorry
theorem rl_channel : Ok_channel Rl := sorry
