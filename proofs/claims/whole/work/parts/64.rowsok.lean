/-! every row of code stands for the machine's code: by computing -/
section
set_option maxRecDepth 100000
theorem rl_0 : mB 0 cl_L_law_0 = true := by decide +kernel
theorem rl_1 : mB 0 cl_L_law_1 = true := by decide +kernel
theorem rl_2 : mB 0 cl_L_law_2 = true := by decide +kernel
theorem rl_3 : mB 0 cl_L_law_3 = true := by decide +kernel
theorem rl_4 : mB 0 cl_L_law_4 = true := by decide +kernel
theorem rl_5 : mB 0 cl_L_law_5 = true := by decide +kernel
theorem rl_6 : mB 0 cl_L_law_6 = true := by decide +kernel
theorem rl_7 : mB 0 cl_L_law_7 = true := by decide +kernel
theorem rl_8 : mB 0 cl_L_law_8 = true := by decide +kernel
theorem rl_9 : mB 0 cl_L_law_9 = true := by decide +kernel
theorem rl_10 : mB 0 cl_L_law_10 = true := by decide +kernel
theorem rl_11 : mB 0 cl_L_law_11 = true := by decide +kernel
theorem rl_12 : mB 0 cl_L_law_12 = true := by decide +kernel
theorem rl_13 : mB 0 cl_L_law_13 = true := by decide +kernel
theorem rl_14 : mB 0 cl_L_law_14 = true := by decide +kernel
theorem rl_15 : mB 0 cl_L_law_15 = true := by decide +kernel
theorem rl_16 : mB 0 cl_L_law_16 = true := by decide +kernel
theorem rl_17 : mB 0 cl_L_law_17 = true := by decide +kernel
theorem rl_18 : mB 0 cl_L_law_18 = true := by decide +kernel
theorem rl_19 : mB 0 cl_L_law_19 = true := by decide +kernel
theorem rl_20 : mB 0 cl_L_law_20 = true := by decide +kernel
theorem rl_21 : mB 0 cl_L_law_21 = true := by decide +kernel
theorem rl_22 : mB 0 cl_L_law_22 = true := by decide +kernel
theorem rl_23 : mB 0 cl_L_law_23 = true := by decide +kernel
theorem rl_24 : mB 0 cl_L_law_24 = true := by decide +kernel
theorem rl_25 : mB 0 cl_L_law_25 = true := by decide +kernel
theorem rl_26 : mB 0 cl_L_law_26 = true := by decide +kernel
theorem ra_1 : (List.range' 1 8).all (fun k => mB k (md k).1) = true := by decide +kernel
theorem ra_9 : (List.range' 9 8).all (fun k => mB k (md k).1) = true := by decide +kernel
theorem ra_17 : (List.range' 17 8).all (fun k => mB k (md k).1) = true := by decide +kernel
theorem ra_25 : (List.range' 25 8).all (fun k => mB k (md k).1) = true := by decide +kernel
theorem ra_33 : (List.range' 33 8).all (fun k => mB k (md k).1) = true := by decide +kernel
theorem ra_41 : (List.range' 41 8).all (fun k => mB k (md k).1) = true := by decide +kernel
theorem ra_49 : (List.range' 49 8).all (fun k => mB k (md k).1) = true := by decide +kernel
theorem ra_57 : (List.range' 57 8).all (fun k => mB k (md k).1) = true := by decide +kernel
theorem ra_65 : (List.range' 65 8).all (fun k => mB k (md k).1) = true := by decide +kernel
theorem ra_73 : (List.range' 73 8).all (fun k => mB k (md k).1) = true := by decide +kernel
theorem ra_81 : (List.range' 81 8).all (fun k => mB k (md k).1) = true := by decide +kernel
theorem ra_89 : (List.range' 89 8).all (fun k => mB k (md k).1) = true := by decide +kernel
theorem ra_97 : (List.range' 97 8).all (fun k => mB k (md k).1) = true := by decide +kernel
theorem ra_105 : (List.range' 105 8).all (fun k => mB k (md k).1) = true := by decide +kernel
theorem ra_113 : (List.range' 113 8).all (fun k => mB k (md k).1) = true := by decide +kernel
theorem ra_121 : (List.range' 121 8).all (fun k => mB k (md k).1) = true := by decide +kernel
theorem ra_129 : (List.range' 129 8).all (fun k => mB k (md k).1) = true := by decide +kernel
theorem ra_137 : (List.range' 137 8).all (fun k => mB k (md k).1) = true := by decide +kernel
theorem ra_145 : (List.range' 145 8).all (fun k => mB k (md k).1) = true := by decide +kernel
theorem ra_153 : (List.range' 153 8).all (fun k => mB k (md k).1) = true := by decide +kernel
theorem ra_161 : (List.range' 161 8).all (fun k => mB k (md k).1) = true := by decide +kernel
theorem ra_169 : (List.range' 169 8).all (fun k => mB k (md k).1) = true := by decide +kernel
theorem ra_177 : (List.range' 177 8).all (fun k => mB k (md k).1) = true := by decide +kernel
theorem ra_185 : (List.range' 185 8).all (fun k => mB k (md k).1) = true := by decide +kernel
theorem ra_193 : (List.range' 193 8).all (fun k => mB k (md k).1) = true := by decide +kernel
theorem ra_201 : (List.range' 201 8).all (fun k => mB k (md k).1) = true := by decide +kernel
theorem ra_209 : (List.range' 209 8).all (fun k => mB k (md k).1) = true := by decide +kernel
theorem ra_217 : (List.range' 217 8).all (fun k => mB k (md k).1) = true := by decide +kernel
theorem ra_225 : (List.range' 225 8).all (fun k => mB k (md k).1) = true := by decide +kernel
theorem ra_233 : (List.range' 233 8).all (fun k => mB k (md k).1) = true := by decide +kernel
theorem ra_241 : (List.range' 241 8).all (fun k => mB k (md k).1) = true := by decide +kernel
theorem ra_249 : (List.range' 249 8).all (fun k => mB k (md k).1) = true := by decide +kernel
theorem ra_257 : (List.range' 257 8).all (fun k => mB k (md k).1) = true := by decide +kernel
theorem ra_265 : (List.range' 265 8).all (fun k => mB k (md k).1) = true := by decide +kernel
theorem ra_273 : (List.range' 273 8).all (fun k => mB k (md k).1) = true := by decide +kernel
theorem ra_281 : (List.range' 281 8).all (fun k => mB k (md k).1) = true := by decide +kernel
theorem ra_289 : (List.range' 289 8).all (fun k => mB k (md k).1) = true := by decide +kernel
theorem ra_297 : (List.range' 297 8).all (fun k => mB k (md k).1) = true := by decide +kernel
theorem ra_305 : (List.range' 305 8).all (fun k => mB k (md k).1) = true := by decide +kernel
theorem ra_313 : (List.range' 313 8).all (fun k => mB k (md k).1) = true := by decide +kernel
theorem ra_321 : (List.range' 321 8).all (fun k => mB k (md k).1) = true := by decide +kernel
end
