theorem dL92 : decode code 92 = .ok (.aload_n 1, 1) := by decide +kernel
theorem dA93 : lwD 93 1 := ⟨by decide +kernel, by decide +kernel, by decide +kernel, by decide +kernel, by decide +kernel⟩
theorem dA99 : lwD 99 2 := ⟨by decide +kernel, by decide +kernel, by decide +kernel, by decide +kernel, by decide +kernel⟩
theorem dA105 : lwD 105 3 := ⟨by decide +kernel, by decide +kernel, by decide +kernel, by decide +kernel, by decide +kernel⟩
theorem dA111 : lwD 111 4 := ⟨by decide +kernel, by decide +kernel, by decide +kernel, by decide +kernel, by decide +kernel⟩
theorem dA117 : lwD 117 5 := ⟨by decide +kernel, by decide +kernel, by decide +kernel, by decide +kernel, by decide +kernel⟩
theorem dL123 : decode code 123 = .ok (.invokevirtual 19, 3) := by decide +kernel
theorem dL126 : decode code 126 = .ok (.aload_n 2, 1) := by decide +kernel
theorem dA127 : lwD 127 1 := ⟨by decide +kernel, by decide +kernel, by decide +kernel, by decide +kernel, by decide +kernel⟩
theorem dA133 : lwD 133 2 := ⟨by decide +kernel, by decide +kernel, by decide +kernel, by decide +kernel, by decide +kernel⟩
theorem dA139 : lwD 139 3 := ⟨by decide +kernel, by decide +kernel, by decide +kernel, by decide +kernel, by decide +kernel⟩
theorem dA145 : lwD 145 4 := ⟨by decide +kernel, by decide +kernel, by decide +kernel, by decide +kernel, by decide +kernel⟩
theorem dA151 : lwD 151 5 := ⟨by decide +kernel, by decide +kernel, by decide +kernel, by decide +kernel, by decide +kernel⟩
theorem dL157 : decode code 157 = .ok (.invokevirtual 23, 3) := by decide +kernel
theorem dL160 : decode code 160 = .ok (.if_icmp .eq 296, 3) := by decide +kernel
theorem dL165 : decode code 165 = .ok (.aload_n 1, 1) := by decide +kernel
theorem dA166 : lwD 166 1 := ⟨by decide +kernel, by decide +kernel, by decide +kernel, by decide +kernel, by decide +kernel⟩
theorem dL172 : decode code 172 = .ok (.invokevirtual 24, 3) := by decide +kernel
theorem dL175 : decode code 175 = .ok (.aload_n 2, 1) := by decide +kernel
theorem dA176 : lwD 176 1 := ⟨by decide +kernel, by decide +kernel, by decide +kernel, by decide +kernel, by decide +kernel⟩
theorem dL182 : decode code 182 = .ok (.invokevirtual 28, 3) := by decide +kernel
theorem dL185 : decode code 185 = .ok (.if_icmp .eq 271, 3) := by decide +kernel
theorem dL190 : decode code 190 = .ok (.aload_n 1, 1) := by decide +kernel
theorem dA191 : lwD 191 1 := ⟨by decide +kernel, by decide +kernel, by decide +kernel, by decide +kernel, by decide +kernel⟩
theorem dL197 : decode code 197 = .ok (.invokevirtual 29, 3) := by decide +kernel
theorem dL200 : decode code 200 = .ok (.aload_n 2, 1) := by decide +kernel
theorem dA201 : lwD 201 1 := ⟨by decide +kernel, by decide +kernel, by decide +kernel, by decide +kernel, by decide +kernel⟩
theorem dL207 : decode code 207 = .ok (.invokevirtual 32, 3) := by decide +kernel
theorem dL210 : decode code 210 = .ok (.if_icmp .eq 246, 3) := by decide +kernel
theorem dL215 : decode code 215 = .ok (.aload_n 1, 1) := by decide +kernel
theorem dA216 : lwD 216 1 := ⟨by decide +kernel, by decide +kernel, by decide +kernel, by decide +kernel, by decide +kernel⟩
theorem dA222 : lwD 222 2 := ⟨by decide +kernel, by decide +kernel, by decide +kernel, by decide +kernel, by decide +kernel⟩
theorem dL228 : decode code 228 = .ok (.invokevirtual 33, 3) := by decide +kernel
theorem dL231 : decode code 231 = .ok (.aload_n 2, 1) := by decide +kernel
theorem dA232 : lwD 232 1 := ⟨by decide +kernel, by decide +kernel, by decide +kernel, by decide +kernel, by decide +kernel⟩
theorem dA238 : lwD 238 2 := ⟨by decide +kernel, by decide +kernel, by decide +kernel, by decide +kernel, by decide +kernel⟩
theorem dL244 : decode code 244 = .ok (.invokevirtual 37, 3) := by decide +kernel
theorem dL247 : decode code 247 = .ok (.if_icmp .eq 209, 3) := by decide +kernel
theorem dL308 : decode code 308 = .ok (.aload_n 1, 1) := by decide +kernel
theorem dA309 : lwD 309 1 := ⟨by decide +kernel, by decide +kernel, by decide +kernel, by decide +kernel, by decide +kernel⟩
theorem dA315 : lwD 315 2 := ⟨by decide +kernel, by decide +kernel, by decide +kernel, by decide +kernel, by decide +kernel⟩
theorem dL321 : decode code 321 = .ok (.invokevirtual 48, 3) := by decide +kernel
theorem dL324 : decode code 324 = .ok (.aload_n 2, 1) := by decide +kernel
theorem dA325 : lwD 325 1 := ⟨by decide +kernel, by decide +kernel, by decide +kernel, by decide +kernel, by decide +kernel⟩
theorem dA331 : lwD 331 2 := ⟨by decide +kernel, by decide +kernel, by decide +kernel, by decide +kernel, by decide +kernel⟩
theorem dL337 : decode code 337 = .ok (.invokevirtual 52, 3) := by decide +kernel
theorem dL340 : decode code 340 = .ok (.if_icmp .eq 116, 3) := by decide +kernel
theorem dL345 : decode code 345 = .ok (.aload_n 1, 1) := by decide +kernel
theorem dA346 : lwD 346 1 := ⟨by decide +kernel, by decide +kernel, by decide +kernel, by decide +kernel, by decide +kernel⟩
theorem dA352 : lwD 352 2 := ⟨by decide +kernel, by decide +kernel, by decide +kernel, by decide +kernel, by decide +kernel⟩
theorem dA358 : lwD 358 3 := ⟨by decide +kernel, by decide +kernel, by decide +kernel, by decide +kernel, by decide +kernel⟩
theorem dL364 : decode code 364 = .ok (.invokevirtual 53, 3) := by decide +kernel
theorem dL367 : decode code 367 = .ok (.aload_n 2, 1) := by decide +kernel
theorem dA368 : lwD 368 1 := ⟨by decide +kernel, by decide +kernel, by decide +kernel, by decide +kernel, by decide +kernel⟩
theorem dA374 : lwD 374 2 := ⟨by decide +kernel, by decide +kernel, by decide +kernel, by decide +kernel, by decide +kernel⟩
theorem dA380 : lwD 380 3 := ⟨by decide +kernel, by decide +kernel, by decide +kernel, by decide +kernel, by decide +kernel⟩
theorem dL386 : decode code 386 = .ok (.invokevirtual 57, 3) := by decide +kernel
theorem dL389 : decode code 389 = .ok (.if_icmp .eq 67, 3) := by decide +kernel
theorem dL394 : decode code 394 = .ok (.aload_n 1, 1) := by decide +kernel
theorem dA395 : lwD 395 1 := ⟨by decide +kernel, by decide +kernel, by decide +kernel, by decide +kernel, by decide +kernel⟩
theorem dA401 : lwD 401 2 := ⟨by decide +kernel, by decide +kernel, by decide +kernel, by decide +kernel, by decide +kernel⟩
theorem dL407 : decode code 407 = .ok (.invokevirtual 58, 3) := by decide +kernel
theorem dL410 : decode code 410 = .ok (.aload_n 2, 1) := by decide +kernel
