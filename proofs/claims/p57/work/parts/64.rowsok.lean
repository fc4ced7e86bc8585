/-! every row of code stands for the machine's code: by computing -/
section
set_option maxRecDepth 100000
theorem rl_0 : mB 0 cl_L_law_0 = true := by decide +kernel
theorem rl_1 : mB 0 cl_L_law_1 = true := by decide +kernel
theorem rl_2 : mB 0 cl_L_law_2 = true := by decide +kernel
theorem rl_3 : mB 0 cl_L_law_3 = true := by decide +kernel
theorem rl_4 : mB 0 cl_L_law_4 = true := by decide +kernel
theorem rl_5 : mB 0 cl_L_law_5 = true := by decide +kernel
theorem rl_6 : mB 0 cl_L_law_6 = true := by decide +kernel
theorem rl_7 : mB 0 cl_L_law_7 = true := by decide +kernel
theorem rl_8 : mB 0 cl_L_law_8 = true := by decide +kernel
theorem rl_9 : mB 0 cl_L_law_9 = true := by decide +kernel
theorem rl_10 : mB 0 cl_L_law_10 = true := by decide +kernel
theorem ra_1 : (List.range' 1 8).all (fun k => mB k (md k).1) = true := by decide +kernel
theorem ra_9 : (List.range' 9 8).all (fun k => mB k (md k).1) = true := by decide +kernel
theorem ra_17 : (List.range' 17 8).all (fun k => mB k (md k).1) = true := by decide +kernel
theorem ra_25 : (List.range' 25 8).all (fun k => mB k (md k).1) = true := by decide +kernel
theorem ra_33 : (List.range' 33 8).all (fun k => mB k (md k).1) = true := by decide +kernel
theorem ra_41 : (List.range' 41 8).all (fun k => mB k (md k).1) = true := by decide +kernel
theorem ra_49 : (List.range' 49 8).all (fun k => mB k (md k).1) = true := by decide +kernel
theorem ra_57 : (List.range' 57 8).all (fun k => mB k (md k).1) = true := by decide +kernel
theorem ra_65 : (List.range' 65 8).all (fun k => mB k (md k).1) = true := by decide +kernel
theorem ra_73 : (List.range' 73 8).all (fun k => mB k (md k).1) = true := by decide +kernel
theorem ra_81 : (List.range' 81 8).all (fun k => mB k (md k).1) = true := by decide +kernel
theorem ra_89 : (List.range' 89 8).all (fun k => mB k (md k).1) = true := by decide +kernel
theorem ra_97 : (List.range' 97 8).all (fun k => mB k (md k).1) = true := by decide +kernel
theorem ra_105 : (List.range' 105 8).all (fun k => mB k (md k).1) = true := by decide +kernel
theorem ra_113 : (List.range' 113 8).all (fun k => mB k (md k).1) = true := by decide +kernel
theorem ra_121 : (List.range' 121 8).all (fun k => mB k (md k).1) = true := by decide +kernel
theorem ra_129 : (List.range' 129 8).all (fun k => mB k (md k).1) = true := by decide +kernel
theorem ra_137 : (List.range' 137 8).all (fun k => mB k (md k).1) = true := by decide +kernel
theorem ra_145 : (List.range' 145 8).all (fun k => mB k (md k).1) = true := by decide +kernel
theorem ra_153 : (List.range' 153 8).all (fun k => mB k (md k).1) = true := by decide +kernel
theorem ra_161 : (List.range' 161 8).all (fun k => mB k (md k).1) = true := by decide +kernel
theorem ra_169 : (List.range' 169 4).all (fun k => mB k (md k).1) = true := by decide +kernel
end
