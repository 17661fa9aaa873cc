-- what the law's two constructors want of the tables
theorem cl_RL_7 : Cond.classLink RL 7 RX4 ∈ TB := tb_mem 81 (by decide +kernel) (by decide +kernel)
theorem cl_RL_10 : Cond.classLink RL 10 RX5 ∈ TB := tb_mem 779 (by decide +kernel) (by decide +kernel)
theorem in_RX5 : Cond.instantiable RX5 16 ∈ TB := tb_mem 780 (by decide +kernel) (by decide +kernel)
theorem in_RX4 : Cond.instantiable RX4 8 ∈ TB := tb_mem 82 (by decide +kernel) (by decide +kernel)
theorem iz_RX4 : Cond.initialized RX4 ∈ TB := tb_mem 68 (by decide +kernel) (by decide +kernel)
theorem iz_RX5 : Cond.initialized RX5 ∈ TB := tb_mem 73 (by decide +kernel) (by decide +kernel)
theorem ml_RL_9 : Cond.methodLink RL 9 yX4_init ∈ TB := tb_mem 83 (by decide +kernel) (by decide +kernel)
theorem ln_X4_init : LN yX4_init cX4_init mX4_init 0 := ⟨tb_mem 68 (by decide +kernel) (by decide +kernel), tb_mem 85 (by decide +kernel) (by decide +kernel), ⟨by decide +kernel, by decide +kernel, by decide +kernel⟩, rfl, tb_mem 84 (by decide +kernel) (by decide +kernel)⟩
theorem ml_RL_12 : Cond.methodLink RL 12 yX5_init ∈ TB := tb_mem 781 (by decide +kernel) (by decide +kernel)
theorem ln_X5_init : LN yX5_init cX5_init mX5_init 0 := ⟨tb_mem 73 (by decide +kernel) (by decide +kernel), tb_mem 783 (by decide +kernel) (by decide +kernel), ⟨by decide +kernel, by decide +kernel, by decide +kernel⟩, rfl, tb_mem 782 (by decide +kernel) (by decide +kernel)⟩
