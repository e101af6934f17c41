theorem kN_L_8 : NW "MangleTownLaw" 8 9 := ⟨cin_9, (inT1 27 rfl rfl), (inT1 28 rfl rfl), (inT1 1 rfl rfl), by decide⟩
theorem kN_L_19 : NW "MangleTownLaw" 19 10 := ⟨cin_10, (inT6 27 rfl rfl), (inT6 28 rfl rfl), (inT1 14 rfl rfl), by decide⟩
theorem kI_L_18 : MLI "MangleTownLaw" 18 yX11_init cX11_init 2 0 := ⟨⟨(inT1 29 rfl rfl), (inT1 1 rfl rfl), (inT1 31 rfl rfl), by decide +kernel, by decide⟩, rfl, (inT1 30 rfl rfl)⟩
theorem kI_L_21 : MLI "MangleTownLaw" 21 yX12_init cX12_init 1 0 := ⟨⟨(inT6 29 rfl rfl), (inT1 14 rfl rfl), (inT6 31 rfl rfl), by decide +kernel, by decide⟩, rfl, (inT6 30 rfl rfl)⟩
theorem kL_L_22 : Cond.constantLong "MangleTownLaw" 22 (Int64.ofInt 4294967295) ∈ TB := (inT8 167 rfl rfl)
theorem m_L_24 : MLV "MangleTownLaw" 24 yX11_feed cX11_feed 7 (some .int) 3 9 := ⟨⟨(inT2 211 rfl rfl), (inT1 1 rfl rfl), (inT2 214 rfl rfl), by decide +kernel, by decide⟩, (inT2 212 rfl rfl), (inT2 213 rfl rfl), rfl⟩
theorem m_L_28 : MLV "MangleTownLaw" 28 yX12_feed cX12_feed 11 (some .int) 3 10 := ⟨⟨(inT6 228 rfl rfl), (inT1 14 rfl rfl), (inT6 231 rfl rfl), by decide +kernel, by decide⟩, (inT6 229 rfl rfl), (inT6 230 rfl rfl), rfl⟩
theorem m_L_29 : MLV "MangleTownLaw" 29 yX11_town cX11_town 3 (some .int) 0 9 := ⟨⟨(inT2 223 rfl rfl), (inT1 1 rfl rfl), (inT2 226 rfl rfl), by decide +kernel, by decide⟩, (inT2 224 rfl rfl), (inT2 225 rfl rfl), rfl⟩
theorem m_L_33 : MLV "MangleTownLaw" 33 yX12_town cX12_town 2 (some .int) 0 10 := ⟨⟨(inT6 233 rfl rfl), (inT1 14 rfl rfl), (inT6 236 rfl rfl), by decide +kernel, by decide⟩, (inT6 234 rfl rfl), (inT6 235 rfl rfl), rfl⟩
theorem m_L_34 : MLV "MangleTownLaw" 34 yX11_years cX11_years 1 (some .int) 0 9 := ⟨⟨(inT3 232 rfl rfl), (inT1 1 rfl rfl), (inT3 235 rfl rfl), by decide +kernel, by decide⟩, (inT3 233 rfl rfl), (inT3 234 rfl rfl), rfl⟩
theorem m_L_37 : MLV "MangleTownLaw" 37 yX12_years cX12_years 1 (some .int) 0 10 := ⟨⟨(inT7 123 rfl rfl), (inT1 14 rfl rfl), (inT7 126 rfl rfl), by decide +kernel, by decide⟩, (inT7 124 rfl rfl), (inT7 125 rfl rfl), rfl⟩
theorem m_L_38 : MLV "MangleTownLaw" 38 yX11_house cX11_house 3 (some .int) 2 9 := ⟨⟨(inT4 27 rfl rfl), (inT1 1 rfl rfl), (inT4 30 rfl rfl), by decide +kernel, by decide⟩, (inT4 28 rfl rfl), (inT4 29 rfl rfl), rfl⟩
theorem m_L_42 : MLV "MangleTownLaw" 42 yX12_house cX12_house 3 (some .int) 2 10 := ⟨⟨(inT7 135 rfl rfl), (inT1 14 rfl rfl), (inT7 138 rfl rfl), by decide +kernel, by decide⟩, (inT7 136 rfl rfl), (inT7 137 rfl rfl), rfl⟩
theorem m_L_43 : MLV "MangleTownLaw" 43 yX11_order cX11_order 2 (some .int) 1 9 := ⟨⟨(inT4 43 rfl rfl), (inT1 1 rfl rfl), (inT4 46 rfl rfl), by decide +kernel, by decide⟩, (inT4 44 rfl rfl), (inT4 45 rfl rfl), rfl⟩
theorem m_L_47 : MLV "MangleTownLaw" 47 yX12_order cX12_order 2 (some .int) 1 10 := ⟨⟨(inT7 147 rfl rfl), (inT1 14 rfl rfl), (inT7 150 rfl rfl), by decide +kernel, by decide⟩, (inT7 148 rfl rfl), (inT7 149 rfl rfl), rfl⟩
theorem m_L_48 : MLV "MangleTownLaw" 48 yX11_ahead cX11_ahead 2 (some .int) 1 9 := ⟨⟨(inT4 47 rfl rfl), (inT1 1 rfl rfl), (inT4 50 rfl rfl), by decide +kernel, by decide⟩, (inT4 48 rfl rfl), (inT4 49 rfl rfl), rfl⟩
theorem m_L_51 : MLV "MangleTownLaw" 51 yX12_ahead cX12_ahead 2 (some .int) 1 10 := ⟨⟨(inT7 151 rfl rfl), (inT1 14 rfl rfl), (inT7 154 rfl rfl), by decide +kernel, by decide⟩, (inT7 152 rfl rfl), (inT7 153 rfl rfl), rfl⟩
theorem m_L_52 : MLV "MangleTownLaw" 52 yX11_pressed cX11_pressed 2 (some .int) 1 9 := ⟨⟨(inT4 64 rfl rfl), (inT1 1 rfl rfl), (inT4 67 rfl rfl), by decide +kernel, by decide⟩, (inT4 65 rfl rfl), (inT4 66 rfl rfl), rfl⟩
theorem m_L_55 : MLV "MangleTownLaw" 55 yX12_pressed cX12_pressed 2 (some .int) 1 10 := ⟨⟨(inT7 163 rfl rfl), (inT1 14 rfl rfl), (inT7 166 rfl rfl), by decide +kernel, by decide⟩, (inT7 164 rfl rfl), (inT7 165 rfl rfl), rfl⟩
theorem m_L_56 : MLV "MangleTownLaw" 56 yX11_blot cX11_blot 3 (some .int) 2 9 := ⟨⟨(inT4 88 rfl rfl), (inT1 1 rfl rfl), (inT4 91 rfl rfl), by decide +kernel, by decide⟩, (inT4 89 rfl rfl), (inT4 90 rfl rfl), rfl⟩
theorem m_L_59 : MLV "MangleTownLaw" 59 yX12_blot cX12_blot 3 (some .int) 2 10 := ⟨⟨(inT7 191 rfl rfl), (inT1 14 rfl rfl), (inT7 194 rfl rfl), by decide +kernel, by decide⟩, (inT7 192 rfl rfl), (inT7 193 rfl rfl), rfl⟩
theorem m_L_60 : MLV "MangleTownLaw" 60 yX11_put cX11_put 3 (some .boolean) 2 9 := ⟨⟨(inT4 98 rfl rfl), (inT1 1 rfl rfl), (inT4 101 rfl rfl), by decide +kernel, by decide⟩, (inT4 99 rfl rfl), (inT4 100 rfl rfl), rfl⟩
theorem m_L_64 : MLV "MangleTownLaw" 64 yX12_put cX12_put 3 (some .boolean) 2 10 := ⟨⟨(inT7 199 rfl rfl), (inT1 14 rfl rfl), (inT7 202 rfl rfl), by decide +kernel, by decide⟩, (inT7 200 rfl rfl), (inT7 201 rfl rfl), rfl⟩
theorem m_L_65 : MLV "MangleTownLaw" 65 yX11_road cX11_road 2 (some .boolean) 1 9 := ⟨⟨(inT4 113 rfl rfl), (inT1 1 rfl rfl), (inT4 116 rfl rfl), by decide +kernel, by decide⟩, (inT4 114 rfl rfl), (inT4 115 rfl rfl), rfl⟩
theorem m_L_69 : MLV "MangleTownLaw" 69 yX12_road cX12_road 2 (some .boolean) 1 10 := ⟨⟨(inT7 214 rfl rfl), (inT1 14 rfl rfl), (inT7 217 rfl rfl), by decide +kernel, by decide⟩, (inT7 215 rfl rfl), (inT7 216 rfl rfl), rfl⟩
theorem m_L_70 : MLV "MangleTownLaw" 70 yX11_run cX11_run 1 (some .int) 0 9 := ⟨⟨(inT4 121 rfl rfl), (inT1 1 rfl rfl), (inT4 124 rfl rfl), by decide +kernel, by decide⟩, (inT4 122 rfl rfl), (inT4 123 rfl rfl), rfl⟩
theorem m_L_73 : MLV "MangleTownLaw" 73 yX12_run cX12_run 1 (some .int) 0 10 := ⟨⟨(inT7 218 rfl rfl), (inT1 14 rfl rfl), (inT7 221 rfl rfl), by decide +kernel, by decide⟩, (inT7 219 rfl rfl), (inT7 220 rfl rfl), rfl⟩
theorem m_L_74 : MLV "MangleTownLaw" 74 yX11_sell cX11_sell 2 (some .int) 1 9 := ⟨⟨(inT4 158 rfl rfl), (inT1 1 rfl rfl), (inT4 161 rfl rfl), by decide +kernel, by decide⟩, (inT4 159 rfl rfl), (inT4 160 rfl rfl), rfl⟩
theorem m_L_77 : MLV "MangleTownLaw" 77 yX12_sell cX12_sell 2 (some .int) 1 10 := ⟨⟨(inT7 234 rfl rfl), (inT1 14 rfl rfl), (inT7 237 rfl rfl), by decide +kernel, by decide⟩, (inT7 235 rfl rfl), (inT7 236 rfl rfl), rfl⟩
theorem m_L_78 : MLV "MangleTownLaw" 78 yX11_undo cX11_undo 1 (some .boolean) 0 9 := ⟨⟨(inT4 166 rfl rfl), (inT1 1 rfl rfl), (inT4 169 rfl rfl), by decide +kernel, by decide⟩, (inT4 167 rfl rfl), (inT4 168 rfl rfl), rfl⟩
theorem m_L_82 : MLV "MangleTownLaw" 82 yX12_undo cX12_undo 1 (some .boolean) 0 10 := ⟨⟨(inT8 2 rfl rfl), (inT1 14 rfl rfl), (inT8 5 rfl rfl), by decide +kernel, by decide⟩, (inT8 3 rfl rfl), (inT8 4 rfl rfl), rfl⟩
theorem m_L_83 : MLV "MangleTownLaw" 83 yX11_judged cX11_judged 2 (some .int) 1 9 := ⟨⟨(inT4 170 rfl rfl), (inT1 1 rfl rfl), (inT4 173 rfl rfl), by decide +kernel, by decide⟩, (inT4 171 rfl rfl), (inT4 172 rfl rfl), rfl⟩
theorem m_L_86 : MLV "MangleTownLaw" 86 yX12_judged cX12_judged 5 (some .int) 1 10 := ⟨⟨(inT8 6 rfl rfl), (inT1 14 rfl rfl), (inT8 9 rfl rfl), by decide +kernel, by decide⟩, (inT8 7 rfl rfl), (inT8 8 rfl rfl), rfl⟩
theorem m_L_87 : MLV "MangleTownLaw" 87 yX11_shunned cX11_shunned 1 (some .int) 0 9 := ⟨⟨(inT4 191 rfl rfl), (inT1 1 rfl rfl), (inT4 194 rfl rfl), by decide +kernel, by decide⟩, (inT4 192 rfl rfl), (inT4 193 rfl rfl), rfl⟩
theorem m_L_90 : MLV "MangleTownLaw" 90 yX12_shunned cX12_shunned 1 (some .int) 0 10 := ⟨⟨(inT8 22 rfl rfl), (inT1 14 rfl rfl), (inT8 25 rfl rfl), by decide +kernel, by decide⟩, (inT8 23 rfl rfl), (inT8 24 rfl rfl), rfl⟩
theorem m_L_91 : MLV "MangleTownLaw" 91 yX11_best cX11_best 2 (some .int) 1 9 := ⟨⟨(inT4 196 rfl rfl), (inT1 1 rfl rfl), (inT4 199 rfl rfl), by decide +kernel, by decide⟩, (inT4 197 rfl rfl), (inT4 198 rfl rfl), rfl⟩
theorem m_L_94 : MLV "MangleTownLaw" 94 yX12_best cX12_best 4 (some .int) 1 10 := ⟨⟨(inT8 26 rfl rfl), (inT1 14 rfl rfl), (inT8 29 rfl rfl), by decide +kernel, by decide⟩, (inT8 27 rfl rfl), (inT8 28 rfl rfl), rfl⟩
theorem m_L_95 : MLV "MangleTownLaw" 95 yX11_around cX11_around 1 (some .int) 0 9 := ⟨⟨(inT5 2 rfl rfl), (inT1 1 rfl rfl), (inT5 5 rfl rfl), by decide +kernel, by decide⟩, (inT5 3 rfl rfl), (inT5 4 rfl rfl), rfl⟩
theorem m_L_98 : MLV "MangleTownLaw" 98 yX12_around cX12_around 4 (some .int) 0 10 := ⟨⟨(inT8 41 rfl rfl), (inT1 14 rfl rfl), (inT8 44 rfl rfl), by decide +kernel, by decide⟩, (inT8 42 rfl rfl), (inT8 43 rfl rfl), rfl⟩
theorem m_L_99 : MLV "MangleTownLaw" 99 yX11_till cX11_till 3 (some .int) 1 9 := ⟨⟨(inT5 16 rfl rfl), (inT1 1 rfl rfl), (inT5 19 rfl rfl), by decide +kernel, by decide⟩, (inT5 17 rfl rfl), (inT5 18 rfl rfl), rfl⟩
theorem m_L_102 : MLV "MangleTownLaw" 102 yX12_till cX12_till 3 (some .int) 1 10 := ⟨⟨(inT8 49 rfl rfl), (inT1 14 rfl rfl), (inT8 52 rfl rfl), by decide +kernel, by decide⟩, (inT8 50 rfl rfl), (inT8 51 rfl rfl), rfl⟩
theorem m_L_103 : MLV "MangleTownLaw" 103 yX11_dry cX11_dry 3 (some .int) 1 9 := ⟨⟨(inT5 24 rfl rfl), (inT1 1 rfl rfl), (inT5 27 rfl rfl), by decide +kernel, by decide⟩, (inT5 25 rfl rfl), (inT5 26 rfl rfl), rfl⟩
theorem m_L_106 : MLV "MangleTownLaw" 106 yX12_dry cX12_dry 3 (some .int) 1 10 := ⟨⟨(inT8 57 rfl rfl), (inT1 14 rfl rfl), (inT8 60 rfl rfl), by decide +kernel, by decide⟩, (inT8 58 rfl rfl), (inT8 59 rfl rfl), rfl⟩
theorem m_L_107 : MLV "MangleTownLaw" 107 yX11_hear cX11_hear 2 (some .boolean) 1 9 := ⟨⟨(inT5 32 rfl rfl), (inT1 1 rfl rfl), (inT5 35 rfl rfl), by decide +kernel, by decide⟩, (inT5 33 rfl rfl), (inT5 34 rfl rfl), rfl⟩
theorem m_L_110 : MLV "MangleTownLaw" 110 yX12_hear cX12_hear 2 (some .boolean) 1 10 := ⟨⟨(inT8 65 rfl rfl), (inT1 14 rfl rfl), (inT8 68 rfl rfl), by decide +kernel, by decide⟩, (inT8 66 rfl rfl), (inT8 67 rfl rfl), rfl⟩
theorem m_L_111 : MLV "MangleTownLaw" 111 yX11_sets cX11_sets 2 (some .int) 1 9 := ⟨⟨(inT5 36 rfl rfl), (inT1 1 rfl rfl), (inT5 39 rfl rfl), by decide +kernel, by decide⟩, (inT5 37 rfl rfl), (inT5 38 rfl rfl), rfl⟩
theorem m_L_114 : MLV "MangleTownLaw" 114 yX12_sets cX12_sets 7 (some .int) 1 10 := ⟨⟨(inT8 69 rfl rfl), (inT1 14 rfl rfl), (inT8 72 rfl rfl), by decide +kernel, by decide⟩, (inT8 70 rfl rfl), (inT8 71 rfl rfl), rfl⟩
theorem m_L_115 : MLV "MangleTownLaw" 115 yX11_look cX11_look 1 (some .int) 0 9 := ⟨⟨(inT5 54 rfl rfl), (inT1 1 rfl rfl), (inT5 57 rfl rfl), by decide +kernel, by decide⟩, (inT5 55 rfl rfl), (inT5 56 rfl rfl), rfl⟩
theorem m_L_118 : MLV "MangleTownLaw" 118 yX12_look cX12_look 8 (some .int) 0 10 := ⟨⟨(inT8 77 rfl rfl), (inT1 14 rfl rfl), (inT8 80 rfl rfl), by decide +kernel, by decide⟩, (inT8 78 rfl rfl), (inT8 79 rfl rfl), rfl⟩
theorem m_L_119 : MLV "MangleTownLaw" 119 yX11_see cX11_see 3 (some .boolean) 2 9 := ⟨⟨(inT5 63 rfl rfl), (inT1 1 rfl rfl), (inT5 66 rfl rfl), by decide +kernel, by decide⟩, (inT5 64 rfl rfl), (inT5 65 rfl rfl), rfl⟩
theorem m_L_122 : MLV "MangleTownLaw" 122 yX12_see cX12_see 3 (some .boolean) 2 10 := ⟨⟨(inT8 83 rfl rfl), (inT1 14 rfl rfl), (inT8 86 rfl rfl), by decide +kernel, by decide⟩, (inT8 84 rfl rfl), (inT8 85 rfl rfl), rfl⟩
theorem m_L_123 : MLV "MangleTownLaw" 123 yX11_orders cX11_orders 1 (some .int) 0 9 := ⟨⟨(inT5 71 rfl rfl), (inT1 1 rfl rfl), (inT5 74 rfl rfl), by decide +kernel, by decide⟩, (inT5 72 rfl rfl), (inT5 73 rfl rfl), rfl⟩
theorem m_L_126 : MLV "MangleTownLaw" 126 yX12_orders cX12_orders 1 (some .int) 0 10 := ⟨⟨(inT8 87 rfl rfl), (inT1 14 rfl rfl), (inT8 90 rfl rfl), by decide +kernel, by decide⟩, (inT8 88 rfl rfl), (inT8 89 rfl rfl), rfl⟩
theorem m_L_127 : MLV "MangleTownLaw" 127 yX11_first cX11_first 2 (some .int) 1 9 := ⟨⟨(inT5 83 rfl rfl), (inT1 1 rfl rfl), (inT5 86 rfl rfl), by decide +kernel, by decide⟩, (inT5 84 rfl rfl), (inT5 85 rfl rfl), rfl⟩
theorem m_L_130 : MLV "MangleTownLaw" 130 yX12_first cX12_first 5 (some .int) 1 10 := ⟨⟨(inT8 99 rfl rfl), (inT1 14 rfl rfl), (inT8 102 rfl rfl), by decide +kernel, by decide⟩, (inT8 100 rfl rfl), (inT8 101 rfl rfl), rfl⟩
theorem m_L_131 : MLV "MangleTownLaw" 131 yX11_ask cX11_ask 1 (some .int) 0 9 := ⟨⟨(inT5 95 rfl rfl), (inT1 1 rfl rfl), (inT5 98 rfl rfl), by decide +kernel, by decide⟩, (inT5 96 rfl rfl), (inT5 97 rfl rfl), rfl⟩
theorem m_L_134 : MLV "MangleTownLaw" 134 yX12_ask cX12_ask 6 (some .int) 0 10 := ⟨⟨(inT8 103 rfl rfl), (inT1 14 rfl rfl), (inT8 106 rfl rfl), by decide +kernel, by decide⟩, (inT8 104 rfl rfl), (inT8 105 rfl rfl), rfl⟩
theorem m_L_135 : MLV "MangleTownLaw" 135 yX11_share cX11_share 5 (some .int) 1 9 := ⟨⟨(inT5 109 rfl rfl), (inT1 1 rfl rfl), (inT5 112 rfl rfl), by decide +kernel, by decide⟩, (inT5 110 rfl rfl), (inT5 111 rfl rfl), rfl⟩
theorem m_L_138 : MLV "MangleTownLaw" 138 yX12_share cX12_share 6 (some .int) 1 10 := ⟨⟨(inT8 111 rfl rfl), (inT1 14 rfl rfl), (inT8 114 rfl rfl), by decide +kernel, by decide⟩, (inT8 112 rfl rfl), (inT8 113 rfl rfl), rfl⟩
theorem m_L_151 : MLV "MangleTownLaw" 151 yX11_decades cX11_decades 4 (some .int) 3 9 := ⟨⟨(inT5 117 rfl rfl), (inT1 1 rfl rfl), (inT5 120 rfl rfl), by decide +kernel, by decide⟩, (inT5 118 rfl rfl), (inT5 119 rfl rfl), rfl⟩
theorem m_L_154 : MLV "MangleTownLaw" 154 yX12_decades cX12_decades 7 (some .int) 3 10 := ⟨⟨(inT8 139 rfl rfl), (inT1 14 rfl rfl), (inT8 142 rfl rfl), by decide +kernel, by decide⟩, (inT8 140 rfl rfl), (inT8 141 rfl rfl), rfl⟩
theorem m_L_155 : MLV "MangleTownLaw" 155 yX11_mark cX11_mark 3 (some .boolean) 2 9 := ⟨⟨(inT5 137 rfl rfl), (inT1 1 rfl rfl), (inT5 140 rfl rfl), by decide +kernel, by decide⟩, (inT5 138 rfl rfl), (inT5 139 rfl rfl), rfl⟩
theorem m_L_159 : MLV "MangleTownLaw" 159 yX12_mark cX12_mark 5 (some .boolean) 2 10 := ⟨⟨(inT8 155 rfl rfl), (inT1 14 rfl rfl), (inT8 158 rfl rfl), by decide +kernel, by decide⟩, (inT8 156 rfl rfl), (inT8 157 rfl rfl), rfl⟩
theorem m_L_160 : MLV "MangleTownLaw" 160 yX11_count cX11_count 3 (some .int) 1 9 := ⟨⟨(inT5 147 rfl rfl), (inT1 1 rfl rfl), (inT5 150 rfl rfl), by decide +kernel, by decide⟩, (inT5 148 rfl rfl), (inT5 149 rfl rfl), rfl⟩
theorem m_L_163 : MLV "MangleTownLaw" 163 yX12_count cX12_count 2 (some .int) 1 10 := ⟨⟨(inT8 163 rfl rfl), (inT1 14 rfl rfl), (inT8 166 rfl rfl), by decide +kernel, by decide⟩, (inT8 164 rfl rfl), (inT8 165 rfl rfl), rfl⟩
theorem m_L_145 : MLV "MangleTownLaw" 145 yX12_thrown cX12_thrown 1 (some .int) 0 10 := ⟨⟨(inT6 224 rfl rfl), (inT1 14 rfl rfl), (inT6 227 rfl rfl), by decide +kernel, by decide⟩, (inT6 225 rfl rfl), (inT6 226 rfl rfl), rfl⟩
theorem m_L_144 : MLV "MangleTownLaw" 144 yX12_pin cX12_pin 9 (some .int) 3 10 := ⟨⟨(inT8 115 rfl rfl), (inT1 14 rfl rfl), (inT8 118 rfl rfl), by decide +kernel, by decide⟩, (inT8 116 rfl rfl), (inT8 117 rfl rfl), rfl⟩
theorem m_L_150 : MLV "MangleTownLaw" 150 yX12_rests cX12_rests 6 (some .int) 3 10 := ⟨⟨(inT8 126 rfl rfl), (inT1 14 rfl rfl), (inT8 129 rfl rfl), by decide +kernel, by decide⟩, (inT8 127 rfl rfl), (inT8 128 rfl rfl), rfl⟩
set_option maxHeartbeats 4000000 in
set_option maxRecDepth 100000 in
theorem law_0 {b Ls : Nat} {xs : Nat → Int32} {Kf : Nat → Nat → Rr → Nat → List (Nat × AV) → List AV → Mm → Prop} (hW : LW b Ls xs Kf) (kk : ∀ M N, MC0 M → AtM D0 N N → Kf 0 246 RRL 23 (LL 0) [] (ML M N z0)) : Kf 0 0 (fun _ => zr) 0 [(0, ve 33)] [] (fun _ => z0) := by
  have hO := hW.eko (g := 0) (by omega)
  have h := hO.ek
  refine r_new h (ci := 9) (n := 0) (fun c c1 c2 => by omega) kN_L_8 rfl (by omega) trivial trivial (by decide +kernel : decode code 0 = .ok (.new 8, 3)) (fun hB => ?_)
  refine r_dup h rfl (by decide +kernel : decode code 3 = .ok (.dup, 1)) ?_
  have hB0 : RB shC 1 (upr (fun _ => zr) 1 zr) (upr (fun _ => z0) 1 z0) := RB.new (n := 0) (R := fun _ => zr) (M := fun _ => z0) (fun c c1 c2 => by omega)
  refine r_initO hO (n := 1) (n' := 200) (b := 1) (as := []) (S := [vr 1]) kI_L_18 (MSo_sh (by omega) (fun c _ c2 => (shW_C c2).symm) (i_Main (R := upr (fun _ => zr) 1 zr) (M := upr (fun _ => z0) 1 z0) upr_at upr_at hB0)) (by decide) (by omega) (by omega) rfl rfl trivial ⟨by omega, trivial⟩ (Nat.le_of_ble_eq_true rfl) (by decide +kernel : decode code 4 = .ok (.invokespecial 18, 3)) (fun r R' M' q => q.1) ?_
  rintro _ M ⟨-, rfl, hM⟩
  have hB1 : RB shC 200 RBC M := by
    obtain ⟨M0, ⟨h1, -⟩, -, -, -, fr⟩ := hM
    have e1 : M 1 = GMM := (fr 1 (by omega) (by omega)).trans h1
    exact RB_C (by rw [e1]; rfl) (by rw [e1]; rfl)
  refine r_RQ h RQ_C ?_
  refine r_astoren h (q := 1) (L' := [(1, vr 1), (0, ve 33)]) (by decide) rfl (by decide +kernel : decode code 7 = .ok (.astore_n 1, 1)) ?_
  refine r_new h (ci := 10) (n := 200) (RB_L200 hB1) kN_L_19 rfl (by omega) ⟨by omega, trivial⟩ trivial (by decide +kernel : decode code 8 = .ok (.new 19, 3)) (fun _ => ?_)
  refine r_dup h rfl (by decide +kernel : decode code 11 = .ok (.dup, 1)) ?_
  refine r_initM h kI_L_21 hB1 (i_Mod (R := fun _ => zr) (M := fun _ => z0) rfl rfl (fun c c1 c2 k => ⟨Nat.zero_le _, fun _ => Nat.zero_le _⟩)) (by decide) (by omega) (by omega) ⟨by omega, trivial⟩ ⟨by omega, trivial⟩ (Nat.le_of_ble_eq_true rfl) (by decide +kernel : decode code 12 = .ok (.invokespecial 21, 3)) (fun N hN => ?_)
  refine r_astoren h (q := 2) (L' := [(2, vr 201), (1, vr 1), (0, ve 33)]) (by decide) rfl (by decide +kernel : decode code 15 = .ok (.astore_n 2, 1)) ?_
  refine r_iconst h (v := 1) (by decide +kernel : decode code 16 = .ok (.iconst 1, 1)) ?_
  refine r_newa (n := 245) (N := 1) (at9 := .long) (ty := .long) (t := 1) h (RB_245 hB1) rfl ka_long (fun _ => rfl) (fun _ _ _ _ _ h2 => pay_z1 h2) (fun _ => rfl) ra_long rfl (by decide) (by decide) (by omega) ⟨by omega, by omega, trivial⟩ trivial (by decide +kernel : decode code 17 = .ok (.newarray .long, 2)) (fun _ => ?_)
  refine r_RQ h RQ_L ?_
  rw [ML_up]
  refine r_astoren h (q := 3) (L' := [(3, vr 246), (2, vr 201), (1, vr 1), (0, ve 33)]) (by decide) rfl (by decide +kernel : decode code 19 = .ok (.astore_n 3, 1)) ?_
  refine r_iconst h (v := 0) (by decide +kernel : decode code 20 = .ok (.iconst 0, 1)) ?_
  refine r_istore h (i := 4) (L' := [(4, vi 0), (3, vr 246), (2, vr 201), (1, vr 1), (0, ve 33)]) (by decide) rfl (by decide +kernel : decode code 21 = .ok (.istore 4, 2)) ?_
  refine r_drop h [4, 3, 2, 1, 0] rfl ?_
  exact kk M N hM hN
set_option maxHeartbeats 4000000 in
set_option maxRecDepth 100000 in
theorem lc_feed {b Ls : Nat} {xs : Nat → Int32} {Kf : Nat → Nat → Rr → Nat → List (Nat × AV) → List AV → Mm → Prop} (hW : LW b Ls xs Kf) (hLs : Ls ≤ 3584) {g k : Nat} (hgk : g ≤ k) (hk : 7 * k + 7 ≤ Ls) {t : TT} {tb : Nat} {M N : Mm} {o : Nat → Int} (hS : Sim t tb k M N) (hJ : JN Kf k) : Kf g 246 RRL 184 (LL k) [] (ML M N o) := by
  have hg : g ≤ 600 := by omega
  have h := hW.ek hg
  obtain ⟨r9, A9, A9', hC, hD, hF⟩ : Op (S_Main_feed ((orL (shlL (xs (7 * k + 1)).toInt 32) (andL (xs (7 * k + 2)).toInt 4294967295))) ((orL (shlL (xs (7 * k + 3)).toInt 32) (andL (xs (7 * k + 4)).toInt 4294967295))) ((orL (shlL (xs (7 * k + 5)).toInt 32) (andL (xs (7 * k + 6)).toInt 4294967295)))) (S_Mod_feed ((orL (shlL (xs (7 * k + 1)).toInt 32) (andL (xs (7 * k + 2)).toInt 4294967295))) ((orL (shlL (xs (7 * k + 3)).toInt 32) (andL (xs (7 * k + 4)).toInt 4294967295))) ((orL (shlL (xs (7 * k + 5)).toInt 32) (andL (xs (7 * k + 6)).toInt 4294967295)))) k M N := op_feed hS
  refine r_aloadn h (q := 1) 1 rfl (by decide +kernel : decode code 184 = .ok (.aload_n 1, 1)) ?_
  refine r_aloadEn h (q := 0) 0 rfl (by decide +kernel : decode code 185 = .ok (.aload_n 0, 1)) ?_
  refine r_iload h 4 rfl (by decide +kernel : decode code 186 = .ok (.iload 4, 2)) ?_
  refine r_iconst h (v := 1) (by decide +kernel : decode code 188 = .ok (.iconst 1, 1)) ?_
  refine r_iadd h (by decide +kernel : decode code 189 = .ok (.iadd, 1)) ?_
  refine r_sld hW hg (7 * k + 1) (by omega) (by omega) (by omega) (by decide +kernel : decode code 190 = .ok (.iaload, 1)) ?_
  refine r_i2l h (rng_toInt _) (by decide +kernel : decode code 191 = .ok (.i2l, 1)) ?_
  refine r_bipush h (v := 32) (by decide) (by decide +kernel : decode code 192 = .ok (.bipush 32, 2)) ?_
  refine r_lshl h (by decide +kernel : decode code 194 = .ok (.lshl, 1)) ?_
  refine r_aloadEn h (q := 0) 0 rfl (by decide +kernel : decode code 195 = .ok (.aload_n 0, 1)) ?_
  refine r_iload h 4 rfl (by decide +kernel : decode code 196 = .ok (.iload 4, 2)) ?_
  refine r_iconst h (v := 2) (by decide +kernel : decode code 198 = .ok (.iconst 2, 1)) ?_
  refine r_iadd h (by decide +kernel : decode code 199 = .ok (.iadd, 1)) ?_
  refine r_sld hW hg (7 * k + 2) (by omega) (by omega) (by omega) (by decide +kernel : decode code 200 = .ok (.iaload, 1)) ?_
  refine r_i2l h (rng_toInt _) (by decide +kernel : decode code 201 = .ok (.i2l, 1)) ?_
  refine r_ldc2 h (v := 4294967295) kL_L_22 (by decide +kernel : decode code 202 = .ok (.ldc2_w 22, 3)) ?_
  refine r_land h (by decide +kernel : decode code 205 = .ok (.land, 1)) ?_
  refine r_lor h (by decide +kernel : decode code 206 = .ok (.lor, 1)) ?_
  refine r_aloadEn h (q := 0) 0 rfl (by decide +kernel : decode code 207 = .ok (.aload_n 0, 1)) ?_
  refine r_iload h 4 rfl (by decide +kernel : decode code 208 = .ok (.iload 4, 2)) ?_
  refine r_iconst h (v := 3) (by decide +kernel : decode code 210 = .ok (.iconst 3, 1)) ?_
  refine r_iadd h (by decide +kernel : decode code 211 = .ok (.iadd, 1)) ?_
  refine r_sld hW hg (7 * k + 3) (by omega) (by omega) (by omega) (by decide +kernel : decode code 212 = .ok (.iaload, 1)) ?_
  refine r_i2l h (rng_toInt _) (by decide +kernel : decode code 213 = .ok (.i2l, 1)) ?_
  refine r_bipush h (v := 32) (by decide) (by decide +kernel : decode code 214 = .ok (.bipush 32, 2)) ?_
  refine r_lshl h (by decide +kernel : decode code 216 = .ok (.lshl, 1)) ?_
  refine r_aloadEn h (q := 0) 0 rfl (by decide +kernel : decode code 217 = .ok (.aload_n 0, 1)) ?_
  refine r_iload h 4 rfl (by decide +kernel : decode code 218 = .ok (.iload 4, 2)) ?_
  refine r_iconst h (v := 4) (by decide +kernel : decode code 220 = .ok (.iconst 4, 1)) ?_
  refine r_iadd h (by decide +kernel : decode code 221 = .ok (.iadd, 1)) ?_
  refine r_sld hW hg (7 * k + 4) (by omega) (by omega) (by omega) (by decide +kernel : decode code 222 = .ok (.iaload, 1)) ?_
  refine r_i2l h (rng_toInt _) (by decide +kernel : decode code 223 = .ok (.i2l, 1)) ?_
  refine r_ldc2 h (v := 4294967295) kL_L_22 (by decide +kernel : decode code 224 = .ok (.ldc2_w 22, 3)) ?_
  refine r_land h (by decide +kernel : decode code 227 = .ok (.land, 1)) ?_
  refine r_lor h (by decide +kernel : decode code 228 = .ok (.lor, 1)) ?_
  refine r_aloadEn h (q := 0) 0 rfl (by decide +kernel : decode code 229 = .ok (.aload_n 0, 1)) ?_
  refine r_iload h 4 rfl (by decide +kernel : decode code 230 = .ok (.iload 4, 2)) ?_
  refine r_iconst h (v := 5) (by decide +kernel : decode code 232 = .ok (.iconst 5, 1)) ?_
  refine r_iadd h (by decide +kernel : decode code 233 = .ok (.iadd, 1)) ?_
  refine r_sld hW hg (7 * k + 5) (by omega) (by omega) (by omega) (by decide +kernel : decode code 234 = .ok (.iaload, 1)) ?_
  refine r_i2l h (rng_toInt _) (by decide +kernel : decode code 235 = .ok (.i2l, 1)) ?_
  refine r_bipush h (v := 32) (by decide) (by decide +kernel : decode code 236 = .ok (.bipush 32, 2)) ?_
  refine r_lshl h (by decide +kernel : decode code 238 = .ok (.lshl, 1)) ?_
  refine r_aloadEn h (q := 0) 0 rfl (by decide +kernel : decode code 239 = .ok (.aload_n 0, 1)) ?_
  refine r_iload h 4 rfl (by decide +kernel : decode code 240 = .ok (.iload 4, 2)) ?_
  refine r_bipush h (v := 6) (by decide) (by decide +kernel : decode code 242 = .ok (.bipush 6, 2)) ?_
  refine r_iadd h (by decide +kernel : decode code 244 = .ok (.iadd, 1)) ?_
  refine r_sld hW hg (7 * k + 6) (by omega) (by omega) (by omega) (by decide +kernel : decode code 245 = .ok (.iaload, 1)) ?_
  refine r_i2l h (rng_toInt _) (by decide +kernel : decode code 246 = .ok (.i2l, 1)) ?_
  refine r_ldc2 h (v := 4294967295) kL_L_22 (by decide +kernel : decode code 247 = .ok (.ldc2_w 22, 3)) ?_
  refine r_land h (by decide +kernel : decode code 250 = .ok (.land, 1)) ?_
  refine r_lor h (by decide +kernel : decode code 251 = .ok (.lor, 1)) ?_
  refine r_callC h (as := [vl (orL (shlL (xs (7 * k + 1)).toInt 32) (andL (xs (7 * k + 2)).toInt 4294967295)), vl (orL (shlL (xs (7 * k + 3)).toInt 32) (andL (xs (7 * k + 4)).toInt 4294967295)), vl (orL (shlL (xs (7 * k + 5)).toInt 32) (andL (xs (7 * k + 6)).toInt 4294967295))]) (S := []) m_L_24 hC (by decide) (Nat.le_refl _) rfl rfl (Nat.le_of_ble_eq_true rfl) (by decide +kernel : decode code 252 = .ok (.invokevirtual 24, 3)) ?_
  rintro x9 M1 ⟨rfl, hA1⟩
  refine r_aloadn h (q := 2) 2 rfl (by decide +kernel : decode code 255 = .ok (.aload_n 2, 1)) ?_
  refine r_aloadEn h (q := 0) 0 rfl (by decide +kernel : decode code 256 = .ok (.aload_n 0, 1)) ?_
  refine r_iload h 4 rfl (by decide +kernel : decode code 257 = .ok (.iload 4, 2)) ?_
  refine r_iconst h (v := 1) (by decide +kernel : decode code 259 = .ok (.iconst 1, 1)) ?_
  refine r_iadd h (by decide +kernel : decode code 260 = .ok (.iadd, 1)) ?_
  refine r_sld hW hg (7 * k + 1) (by omega) (by omega) (by omega) (by decide +kernel : decode code 261 = .ok (.iaload, 1)) ?_
  refine r_i2l h (rng_toInt _) (by decide +kernel : decode code 262 = .ok (.i2l, 1)) ?_
  refine r_bipush h (v := 32) (by decide) (by decide +kernel : decode code 263 = .ok (.bipush 32, 2)) ?_
  refine r_lshl h (by decide +kernel : decode code 265 = .ok (.lshl, 1)) ?_
  refine r_aloadEn h (q := 0) 0 rfl (by decide +kernel : decode code 266 = .ok (.aload_n 0, 1)) ?_
  refine r_iload h 4 rfl (by decide +kernel : decode code 267 = .ok (.iload 4, 2)) ?_
  refine r_iconst h (v := 2) (by decide +kernel : decode code 269 = .ok (.iconst 2, 1)) ?_
  refine r_iadd h (by decide +kernel : decode code 270 = .ok (.iadd, 1)) ?_
  refine r_sld hW hg (7 * k + 2) (by omega) (by omega) (by omega) (by decide +kernel : decode code 271 = .ok (.iaload, 1)) ?_
  refine r_i2l h (rng_toInt _) (by decide +kernel : decode code 272 = .ok (.i2l, 1)) ?_
  refine r_ldc2 h (v := 4294967295) kL_L_22 (by decide +kernel : decode code 273 = .ok (.ldc2_w 22, 3)) ?_
  refine r_land h (by decide +kernel : decode code 276 = .ok (.land, 1)) ?_
  refine r_lor h (by decide +kernel : decode code 277 = .ok (.lor, 1)) ?_
  refine r_aloadEn h (q := 0) 0 rfl (by decide +kernel : decode code 278 = .ok (.aload_n 0, 1)) ?_
  refine r_iload h 4 rfl (by decide +kernel : decode code 279 = .ok (.iload 4, 2)) ?_
  refine r_iconst h (v := 3) (by decide +kernel : decode code 281 = .ok (.iconst 3, 1)) ?_
  refine r_iadd h (by decide +kernel : decode code 282 = .ok (.iadd, 1)) ?_
  refine r_sld hW hg (7 * k + 3) (by omega) (by omega) (by omega) (by decide +kernel : decode code 283 = .ok (.iaload, 1)) ?_
  refine r_i2l h (rng_toInt _) (by decide +kernel : decode code 284 = .ok (.i2l, 1)) ?_
  refine r_bipush h (v := 32) (by decide) (by decide +kernel : decode code 285 = .ok (.bipush 32, 2)) ?_
  refine r_lshl h (by decide +kernel : decode code 287 = .ok (.lshl, 1)) ?_
  refine r_aloadEn h (q := 0) 0 rfl (by decide +kernel : decode code 288 = .ok (.aload_n 0, 1)) ?_
  refine r_iload h 4 rfl (by decide +kernel : decode code 289 = .ok (.iload 4, 2)) ?_
  refine r_iconst h (v := 4) (by decide +kernel : decode code 291 = .ok (.iconst 4, 1)) ?_
  refine r_iadd h (by decide +kernel : decode code 292 = .ok (.iadd, 1)) ?_
  refine r_sld hW hg (7 * k + 4) (by omega) (by omega) (by omega) (by decide +kernel : decode code 293 = .ok (.iaload, 1)) ?_
  refine r_i2l h (rng_toInt _) (by decide +kernel : decode code 294 = .ok (.i2l, 1)) ?_
  refine r_ldc2 h (v := 4294967295) kL_L_22 (by decide +kernel : decode code 295 = .ok (.ldc2_w 22, 3)) ?_
  refine r_land h (by decide +kernel : decode code 298 = .ok (.land, 1)) ?_
  refine r_lor h (by decide +kernel : decode code 299 = .ok (.lor, 1)) ?_
  refine r_aloadEn h (q := 0) 0 rfl (by decide +kernel : decode code 300 = .ok (.aload_n 0, 1)) ?_
  refine r_iload h 4 rfl (by decide +kernel : decode code 301 = .ok (.iload 4, 2)) ?_
  refine r_iconst h (v := 5) (by decide +kernel : decode code 303 = .ok (.iconst 5, 1)) ?_
  refine r_iadd h (by decide +kernel : decode code 304 = .ok (.iadd, 1)) ?_
  refine r_sld hW hg (7 * k + 5) (by omega) (by omega) (by omega) (by decide +kernel : decode code 305 = .ok (.iaload, 1)) ?_
  refine r_i2l h (rng_toInt _) (by decide +kernel : decode code 306 = .ok (.i2l, 1)) ?_
  refine r_bipush h (v := 32) (by decide) (by decide +kernel : decode code 307 = .ok (.bipush 32, 2)) ?_
  refine r_lshl h (by decide +kernel : decode code 309 = .ok (.lshl, 1)) ?_
  refine r_aloadEn h (q := 0) 0 rfl (by decide +kernel : decode code 310 = .ok (.aload_n 0, 1)) ?_
  refine r_iload h 4 rfl (by decide +kernel : decode code 311 = .ok (.iload 4, 2)) ?_
  refine r_bipush h (v := 6) (by decide) (by decide +kernel : decode code 313 = .ok (.bipush 6, 2)) ?_
  refine r_iadd h (by decide +kernel : decode code 315 = .ok (.iadd, 1)) ?_
  refine r_sld hW hg (7 * k + 6) (by omega) (by omega) (by omega) (by decide +kernel : decode code 316 = .ok (.iaload, 1)) ?_
  refine r_i2l h (rng_toInt _) (by decide +kernel : decode code 317 = .ok (.i2l, 1)) ?_
  refine r_ldc2 h (v := 4294967295) kL_L_22 (by decide +kernel : decode code 318 = .ok (.ldc2_w 22, 3)) ?_
  refine r_land h (by decide +kernel : decode code 321 = .ok (.land, 1)) ?_
  refine r_lor h (by decide +kernel : decode code 322 = .ok (.lor, 1)) ?_
  refine r_callM h (as := [vl (orL (shlL (xs (7 * k + 1)).toInt 32) (andL (xs (7 * k + 2)).toInt 4294967295)), vl (orL (shlL (xs (7 * k + 3)).toInt 32) (andL (xs (7 * k + 4)).toInt 4294967295)), vl (orL (shlL (xs (7 * k + 5)).toInt 32) (andL (xs (7 * k + 6)).toInt 4294967295))]) (S := [vi x9]) m_L_28 hD (fun _ _ _ => rfl) (by decide) (Nat.le_refl _) rfl rfl (Nat.le_of_ble_eq_true rfl) (by decide +kernel : decode code 323 = .ok (.invokevirtual 28, 3)) ?_
  rintro _ N1 ⟨rfl, hA2⟩
  refine r_icmp_same h 1208 (by decide) (by decide +kernel : decode code 326 = .ok (.if_icmp .eq 882, 3)) ?_
  obtain ⟨t9, tb9, hS9⟩ := hF M1 N1 hA1 hA2
  exact hJ g M1 N1 o t9 tb9 (by omega) hS9
set_option maxHeartbeats 4000000 in
set_option maxRecDepth 100000 in
theorem lc_town {b Ls : Nat} {xs : Nat → Int32} {Kf : Nat → Nat → Rr → Nat → List (Nat × AV) → List AV → Mm → Prop} (hW : LW b Ls xs Kf) (hLs : Ls ≤ 3584) {g k : Nat} (hgk : g ≤ k) (hk : 7 * k + 7 ≤ Ls) {t : TT} {tb : Nat} {M N : Mm} {o : Nat → Int} (hS : Sim t tb k M N) (hJ : JN Kf k) : Kf g 246 RRL 331 (LL k) [] (ML M N o) := by
  have hg : g ≤ 600 := by omega
  have h := hW.ek hg
  obtain ⟨r9, A9, A9', hC, hD, hF⟩ : Op (S_Main_town) (S_Mod_town) k M N := op_town hS
  refine r_aloadn h (q := 1) 1 rfl (by decide +kernel : decode code 331 = .ok (.aload_n 1, 1)) ?_
  refine r_callC h (as := []) (S := []) m_L_29 hC (by decide) (Nat.le_refl _) rfl rfl (Nat.le_of_ble_eq_true rfl) (by decide +kernel : decode code 332 = .ok (.invokevirtual 29, 3)) ?_
  rintro x9 M1 ⟨rfl, hA1⟩
  refine r_aloadn h (q := 2) 2 rfl (by decide +kernel : decode code 335 = .ok (.aload_n 2, 1)) ?_
  refine r_callM h (as := []) (S := [vi x9]) m_L_33 hD (fun _ _ _ => rfl) (by decide) (Nat.le_refl _) rfl rfl (Nat.le_of_ble_eq_true rfl) (by decide +kernel : decode code 336 = .ok (.invokevirtual 33, 3)) ?_
  rintro _ N1 ⟨rfl, hA2⟩
  refine r_icmp_same h 1208 (by decide) (by decide +kernel : decode code 339 = .ok (.if_icmp .eq 869, 3)) ?_
  obtain ⟨t9, tb9, hS9⟩ := hF M1 N1 hA1 hA2
  exact hJ g M1 N1 o t9 tb9 (by omega) hS9
set_option maxHeartbeats 4000000 in
set_option maxRecDepth 100000 in
theorem lc_years {b Ls : Nat} {xs : Nat → Int32} {Kf : Nat → Nat → Rr → Nat → List (Nat × AV) → List AV → Mm → Prop} (hW : LW b Ls xs Kf) (hLs : Ls ≤ 3584) {g k : Nat} (hgk : g ≤ k) (hk : 7 * k + 7 ≤ Ls) {t : TT} {tb : Nat} {M N : Mm} {o : Nat → Int} (hS : Sim t tb k M N) (hJ : JN Kf k) : Kf g 246 RRL 344 (LL k) [] (ML M N o) := by
  have hg : g ≤ 600 := by omega
  have h := hW.ek hg
  obtain ⟨r9, A9, A9', hC, hD, hF⟩ : Op (S_Main_years) (S_Mod_years) k M N := op_years hS
  refine r_aloadn h (q := 1) 1 rfl (by decide +kernel : decode code 344 = .ok (.aload_n 1, 1)) ?_
  refine r_callC h (as := []) (S := []) m_L_34 hC (by decide) (Nat.le_refl _) rfl rfl (Nat.le_of_ble_eq_true rfl) (by decide +kernel : decode code 345 = .ok (.invokevirtual 34, 3)) ?_
  rintro x9 M1 ⟨rfl, hA1⟩
  refine r_aloadn h (q := 2) 2 rfl (by decide +kernel : decode code 348 = .ok (.aload_n 2, 1)) ?_
  refine r_callM h (as := []) (S := [vi x9]) m_L_37 hD (fun _ _ _ => rfl) (by decide) (Nat.le_refl _) rfl rfl (Nat.le_of_ble_eq_true rfl) (by decide +kernel : decode code 349 = .ok (.invokevirtual 37, 3)) ?_
  rintro _ N1 ⟨rfl, hA2⟩
  refine r_icmp_same h 1208 (by decide) (by decide +kernel : decode code 352 = .ok (.if_icmp .eq 856, 3)) ?_
  obtain ⟨t9, tb9, hS9⟩ := hF M1 N1 hA1 hA2
  exact hJ g M1 N1 o t9 tb9 (by omega) hS9
set_option maxHeartbeats 4000000 in
set_option maxRecDepth 100000 in
theorem lc_house {b Ls : Nat} {xs : Nat → Int32} {Kf : Nat → Nat → Rr → Nat → List (Nat × AV) → List AV → Mm → Prop} (hW : LW b Ls xs Kf) (hLs : Ls ≤ 3584) {g k : Nat} (hgk : g ≤ k) (hk : 7 * k + 7 ≤ Ls) {t : TT} {tb : Nat} {M N : Mm} {o : Nat → Int} (hS : Sim t tb k M N) (hJ : JN Kf k) : Kf g 246 RRL 357 (LL k) [] (ML M N o) := by
  have hg : g ≤ 600 := by omega
  have h := hW.ek hg
  obtain ⟨r9, A9, A9', hC, hD, hF⟩ : Op (S_Main_house ((xs (7 * k + 1)).toInt) ((xs (7 * k + 2)).toInt)) (S_Mod_house ((xs (7 * k + 1)).toInt) ((xs (7 * k + 2)).toInt)) k M N := op_house (rng_toInt _) (rng_toInt _) hS
  refine r_aloadn h (q := 1) 1 rfl (by decide +kernel : decode code 357 = .ok (.aload_n 1, 1)) ?_
  refine r_aloadEn h (q := 0) 0 rfl (by decide +kernel : decode code 358 = .ok (.aload_n 0, 1)) ?_
  refine r_iload h 4 rfl (by decide +kernel : decode code 359 = .ok (.iload 4, 2)) ?_
  refine r_iconst h (v := 1) (by decide +kernel : decode code 361 = .ok (.iconst 1, 1)) ?_
  refine r_iadd h (by decide +kernel : decode code 362 = .ok (.iadd, 1)) ?_
  refine r_sld hW hg (7 * k + 1) (by omega) (by omega) (by omega) (by decide +kernel : decode code 363 = .ok (.iaload, 1)) ?_
  refine r_aloadEn h (q := 0) 0 rfl (by decide +kernel : decode code 364 = .ok (.aload_n 0, 1)) ?_
  refine r_iload h 4 rfl (by decide +kernel : decode code 365 = .ok (.iload 4, 2)) ?_
  refine r_iconst h (v := 2) (by decide +kernel : decode code 367 = .ok (.iconst 2, 1)) ?_
  refine r_iadd h (by decide +kernel : decode code 368 = .ok (.iadd, 1)) ?_
  refine r_sld hW hg (7 * k + 2) (by omega) (by omega) (by omega) (by decide +kernel : decode code 369 = .ok (.iaload, 1)) ?_
  refine r_callC h (as := [vi (xs (7 * k + 1)).toInt, vi (xs (7 * k + 2)).toInt]) (S := []) m_L_38 hC (by decide) (Nat.le_refl _) rfl rfl (Nat.le_of_ble_eq_true rfl) (by decide +kernel : decode code 370 = .ok (.invokevirtual 38, 3)) ?_
  rintro x9 M1 ⟨rfl, hA1⟩
  refine r_aloadn h (q := 2) 2 rfl (by decide +kernel : decode code 373 = .ok (.aload_n 2, 1)) ?_
  refine r_aloadEn h (q := 0) 0 rfl (by decide +kernel : decode code 374 = .ok (.aload_n 0, 1)) ?_
  refine r_iload h 4 rfl (by decide +kernel : decode code 375 = .ok (.iload 4, 2)) ?_
  refine r_iconst h (v := 1) (by decide +kernel : decode code 377 = .ok (.iconst 1, 1)) ?_
  refine r_iadd h (by decide +kernel : decode code 378 = .ok (.iadd, 1)) ?_
  refine r_sld hW hg (7 * k + 1) (by omega) (by omega) (by omega) (by decide +kernel : decode code 379 = .ok (.iaload, 1)) ?_
  refine r_aloadEn h (q := 0) 0 rfl (by decide +kernel : decode code 380 = .ok (.aload_n 0, 1)) ?_
  refine r_iload h 4 rfl (by decide +kernel : decode code 381 = .ok (.iload 4, 2)) ?_
  refine r_iconst h (v := 2) (by decide +kernel : decode code 383 = .ok (.iconst 2, 1)) ?_
  refine r_iadd h (by decide +kernel : decode code 384 = .ok (.iadd, 1)) ?_
  refine r_sld hW hg (7 * k + 2) (by omega) (by omega) (by omega) (by decide +kernel : decode code 385 = .ok (.iaload, 1)) ?_
  refine r_callM h (as := [vi (xs (7 * k + 1)).toInt, vi (xs (7 * k + 2)).toInt]) (S := [vi x9]) m_L_42 hD (fun _ _ _ => rfl) (by decide) (Nat.le_refl _) rfl rfl (Nat.le_of_ble_eq_true rfl) (by decide +kernel : decode code 386 = .ok (.invokevirtual 42, 3)) ?_
  rintro _ N1 ⟨rfl, hA2⟩
  refine r_icmp_same h 1208 (by decide) (by decide +kernel : decode code 389 = .ok (.if_icmp .eq 819, 3)) ?_
  obtain ⟨t9, tb9, hS9⟩ := hF M1 N1 hA1 hA2
  exact hJ g M1 N1 o t9 tb9 (by omega) hS9
set_option maxHeartbeats 4000000 in
set_option maxRecDepth 100000 in
theorem lc_order {b Ls : Nat} {xs : Nat → Int32} {Kf : Nat → Nat → Rr → Nat → List (Nat × AV) → List AV → Mm → Prop} (hW : LW b Ls xs Kf) (hLs : Ls ≤ 3584) {g k : Nat} (hgk : g ≤ k) (hk : 7 * k + 7 ≤ Ls) {t : TT} {tb : Nat} {M N : Mm} {o : Nat → Int} (hS : Sim t tb k M N) (hJ : JN Kf k) : Kf g 246 RRL 394 (LL k) [] (ML M N o) := by
  have hg : g ≤ 600 := by omega
  have h := hW.ek hg
  obtain ⟨r9, A9, A9', hC, hD, hF⟩ : Op (S_Main_order ((xs (7 * k + 1)).toInt)) (S_Mod_order ((xs (7 * k + 1)).toInt)) k M N := op_order (rng_toInt _) hS
  refine r_aloadn h (q := 1) 1 rfl (by decide +kernel : decode code 394 = .ok (.aload_n 1, 1)) ?_
  refine r_aloadEn h (q := 0) 0 rfl (by decide +kernel : decode code 395 = .ok (.aload_n 0, 1)) ?_
  refine r_iload h 4 rfl (by decide +kernel : decode code 396 = .ok (.iload 4, 2)) ?_
  refine r_iconst h (v := 1) (by decide +kernel : decode code 398 = .ok (.iconst 1, 1)) ?_
  refine r_iadd h (by decide +kernel : decode code 399 = .ok (.iadd, 1)) ?_
  refine r_sld hW hg (7 * k + 1) (by omega) (by omega) (by omega) (by decide +kernel : decode code 400 = .ok (.iaload, 1)) ?_
  refine r_callC h (as := [vi (xs (7 * k + 1)).toInt]) (S := []) m_L_43 hC (by decide) (Nat.le_refl _) rfl rfl (Nat.le_of_ble_eq_true rfl) (by decide +kernel : decode code 401 = .ok (.invokevirtual 43, 3)) ?_
  rintro x9 M1 ⟨rfl, hA1⟩
  refine r_aloadn h (q := 2) 2 rfl (by decide +kernel : decode code 404 = .ok (.aload_n 2, 1)) ?_
  refine r_aloadEn h (q := 0) 0 rfl (by decide +kernel : decode code 405 = .ok (.aload_n 0, 1)) ?_
  refine r_iload h 4 rfl (by decide +kernel : decode code 406 = .ok (.iload 4, 2)) ?_
  refine r_iconst h (v := 1) (by decide +kernel : decode code 408 = .ok (.iconst 1, 1)) ?_
  refine r_iadd h (by decide +kernel : decode code 409 = .ok (.iadd, 1)) ?_
  refine r_sld hW hg (7 * k + 1) (by omega) (by omega) (by omega) (by decide +kernel : decode code 410 = .ok (.iaload, 1)) ?_
  refine r_callM h (as := [vi (xs (7 * k + 1)).toInt]) (S := [vi x9]) m_L_47 hD (fun _ _ _ => rfl) (by decide) (Nat.le_refl _) rfl rfl (Nat.le_of_ble_eq_true rfl) (by decide +kernel : decode code 411 = .ok (.invokevirtual 47, 3)) ?_
  rintro _ N1 ⟨rfl, hA2⟩
  refine r_icmp_same h 1208 (by decide) (by decide +kernel : decode code 414 = .ok (.if_icmp .eq 794, 3)) ?_
  obtain ⟨t9, tb9, hS9⟩ := hF M1 N1 hA1 hA2
  exact hJ g M1 N1 o t9 tb9 (by omega) hS9
set_option maxHeartbeats 4000000 in
set_option maxRecDepth 100000 in
theorem lc_ahead {b Ls : Nat} {xs : Nat → Int32} {Kf : Nat → Nat → Rr → Nat → List (Nat × AV) → List AV → Mm → Prop} (hW : LW b Ls xs Kf) (hLs : Ls ≤ 3584) {g k : Nat} (hgk : g ≤ k) (hk : 7 * k + 7 ≤ Ls) {t : TT} {tb : Nat} {M N : Mm} {o : Nat → Int} (hS : Sim t tb k M N) (hJ : JN Kf k) : Kf g 246 RRL 419 (LL k) [] (ML M N o) := by
  have hg : g ≤ 600 := by omega
  have h := hW.ek hg
  obtain ⟨r9, A9, A9', hC, hD, hF⟩ : Op (S_Main_ahead ((xs (7 * k + 1)).toInt)) (S_Mod_ahead ((xs (7 * k + 1)).toInt)) k M N := op_ahead (rng_toInt _) hS
  refine r_aloadn h (q := 1) 1 rfl (by decide +kernel : decode code 419 = .ok (.aload_n 1, 1)) ?_
  refine r_aloadEn h (q := 0) 0 rfl (by decide +kernel : decode code 420 = .ok (.aload_n 0, 1)) ?_
  refine r_iload h 4 rfl (by decide +kernel : decode code 421 = .ok (.iload 4, 2)) ?_
  refine r_iconst h (v := 1) (by decide +kernel : decode code 423 = .ok (.iconst 1, 1)) ?_
  refine r_iadd h (by decide +kernel : decode code 424 = .ok (.iadd, 1)) ?_
  refine r_sld hW hg (7 * k + 1) (by omega) (by omega) (by omega) (by decide +kernel : decode code 425 = .ok (.iaload, 1)) ?_
  refine r_callC h (as := [vi (xs (7 * k + 1)).toInt]) (S := []) m_L_48 hC (by decide) (Nat.le_refl _) rfl rfl (Nat.le_of_ble_eq_true rfl) (by decide +kernel : decode code 426 = .ok (.invokevirtual 48, 3)) ?_
  rintro x9 M1 ⟨rfl, hA1⟩
  refine r_aloadn h (q := 2) 2 rfl (by decide +kernel : decode code 429 = .ok (.aload_n 2, 1)) ?_
  refine r_aloadEn h (q := 0) 0 rfl (by decide +kernel : decode code 430 = .ok (.aload_n 0, 1)) ?_
  refine r_iload h 4 rfl (by decide +kernel : decode code 431 = .ok (.iload 4, 2)) ?_
  refine r_iconst h (v := 1) (by decide +kernel : decode code 433 = .ok (.iconst 1, 1)) ?_
  refine r_iadd h (by decide +kernel : decode code 434 = .ok (.iadd, 1)) ?_
  refine r_sld hW hg (7 * k + 1) (by omega) (by omega) (by omega) (by decide +kernel : decode code 435 = .ok (.iaload, 1)) ?_
  refine r_callM h (as := [vi (xs (7 * k + 1)).toInt]) (S := [vi x9]) m_L_51 hD (fun _ _ _ => rfl) (by decide) (Nat.le_refl _) rfl rfl (Nat.le_of_ble_eq_true rfl) (by decide +kernel : decode code 436 = .ok (.invokevirtual 51, 3)) ?_
  rintro _ N1 ⟨rfl, hA2⟩
  refine r_icmp_same h 1208 (by decide) (by decide +kernel : decode code 439 = .ok (.if_icmp .eq 769, 3)) ?_
  obtain ⟨t9, tb9, hS9⟩ := hF M1 N1 hA1 hA2
  exact hJ g M1 N1 o t9 tb9 (by omega) hS9
set_option maxHeartbeats 4000000 in
set_option maxRecDepth 100000 in
theorem lc_pressed {b Ls : Nat} {xs : Nat → Int32} {Kf : Nat → Nat → Rr → Nat → List (Nat × AV) → List AV → Mm → Prop} (hW : LW b Ls xs Kf) (hLs : Ls ≤ 3584) {g k : Nat} (hgk : g ≤ k) (hk : 7 * k + 7 ≤ Ls) {t : TT} {tb : Nat} {M N : Mm} {o : Nat → Int} (hS : Sim t tb k M N) (hJ : JN Kf k) : Kf g 246 RRL 444 (LL k) [] (ML M N o) := by
  have hg : g ≤ 600 := by omega
  have h := hW.ek hg
  obtain ⟨r9, A9, A9', hC, hD, hF⟩ : Op (S_Main_pressed ((xs (7 * k + 1)).toInt)) (S_Mod_pressed ((xs (7 * k + 1)).toInt)) k M N := op_pressed (rng_toInt _) hS
  refine r_aloadn h (q := 1) 1 rfl (by decide +kernel : decode code 444 = .ok (.aload_n 1, 1)) ?_
  refine r_aloadEn h (q := 0) 0 rfl (by decide +kernel : decode code 445 = .ok (.aload_n 0, 1)) ?_
  refine r_iload h 4 rfl (by decide +kernel : decode code 446 = .ok (.iload 4, 2)) ?_
  refine r_iconst h (v := 1) (by decide +kernel : decode code 448 = .ok (.iconst 1, 1)) ?_
  refine r_iadd h (by decide +kernel : decode code 449 = .ok (.iadd, 1)) ?_
  refine r_sld hW hg (7 * k + 1) (by omega) (by omega) (by omega) (by decide +kernel : decode code 450 = .ok (.iaload, 1)) ?_
  refine r_callC h (as := [vi (xs (7 * k + 1)).toInt]) (S := []) m_L_52 hC (by decide) (Nat.le_refl _) rfl rfl (Nat.le_of_ble_eq_true rfl) (by decide +kernel : decode code 451 = .ok (.invokevirtual 52, 3)) ?_
  rintro x9 M1 ⟨rfl, hA1⟩
  refine r_aloadn h (q := 2) 2 rfl (by decide +kernel : decode code 454 = .ok (.aload_n 2, 1)) ?_
  refine r_aloadEn h (q := 0) 0 rfl (by decide +kernel : decode code 455 = .ok (.aload_n 0, 1)) ?_
  refine r_iload h 4 rfl (by decide +kernel : decode code 456 = .ok (.iload 4, 2)) ?_
  refine r_iconst h (v := 1) (by decide +kernel : decode code 458 = .ok (.iconst 1, 1)) ?_
  refine r_iadd h (by decide +kernel : decode code 459 = .ok (.iadd, 1)) ?_
  refine r_sld hW hg (7 * k + 1) (by omega) (by omega) (by omega) (by decide +kernel : decode code 460 = .ok (.iaload, 1)) ?_
  refine r_callM h (as := [vi (xs (7 * k + 1)).toInt]) (S := [vi x9]) m_L_55 hD (fun _ _ _ => rfl) (by decide) (Nat.le_refl _) rfl rfl (Nat.le_of_ble_eq_true rfl) (by decide +kernel : decode code 461 = .ok (.invokevirtual 55, 3)) ?_
  rintro _ N1 ⟨rfl, hA2⟩
  refine r_icmp_same h 1208 (by decide) (by decide +kernel : decode code 464 = .ok (.if_icmp .eq 744, 3)) ?_
  obtain ⟨t9, tb9, hS9⟩ := hF M1 N1 hA1 hA2
  exact hJ g M1 N1 o t9 tb9 (by omega) hS9
set_option maxHeartbeats 4000000 in
set_option maxRecDepth 100000 in
theorem lc_blot {b Ls : Nat} {xs : Nat → Int32} {Kf : Nat → Nat → Rr → Nat → List (Nat × AV) → List AV → Mm → Prop} (hW : LW b Ls xs Kf) (hLs : Ls ≤ 3584) {g k : Nat} (hgk : g ≤ k) (hk : 7 * k + 7 ≤ Ls) {t : TT} {tb : Nat} {M N : Mm} {o : Nat → Int} (hS : Sim t tb k M N) (hJ : JN Kf k) : Kf g 246 RRL 469 (LL k) [] (ML M N o) := by
  have hg : g ≤ 600 := by omega
  have h := hW.ek hg
  obtain ⟨r9, A9, A9', hC, hD, hF⟩ : Op (S_Main_blot ((xs (7 * k + 1)).toInt) ((xs (7 * k + 2)).toInt)) (S_Mod_blot ((xs (7 * k + 1)).toInt) ((xs (7 * k + 2)).toInt)) k M N := op_blot (rng_toInt _) (rng_toInt _) hS
  refine r_aloadn h (q := 1) 1 rfl (by decide +kernel : decode code 469 = .ok (.aload_n 1, 1)) ?_
  refine r_aloadEn h (q := 0) 0 rfl (by decide +kernel : decode code 470 = .ok (.aload_n 0, 1)) ?_
  refine r_iload h 4 rfl (by decide +kernel : decode code 471 = .ok (.iload 4, 2)) ?_
  refine r_iconst h (v := 1) (by decide +kernel : decode code 473 = .ok (.iconst 1, 1)) ?_
  refine r_iadd h (by decide +kernel : decode code 474 = .ok (.iadd, 1)) ?_
  refine r_sld hW hg (7 * k + 1) (by omega) (by omega) (by omega) (by decide +kernel : decode code 475 = .ok (.iaload, 1)) ?_
  refine r_aloadEn h (q := 0) 0 rfl (by decide +kernel : decode code 476 = .ok (.aload_n 0, 1)) ?_
  refine r_iload h 4 rfl (by decide +kernel : decode code 477 = .ok (.iload 4, 2)) ?_
  refine r_iconst h (v := 2) (by decide +kernel : decode code 479 = .ok (.iconst 2, 1)) ?_
  refine r_iadd h (by decide +kernel : decode code 480 = .ok (.iadd, 1)) ?_
  refine r_sld hW hg (7 * k + 2) (by omega) (by omega) (by omega) (by decide +kernel : decode code 481 = .ok (.iaload, 1)) ?_
  refine r_callC h (as := [vi (xs (7 * k + 1)).toInt, vi (xs (7 * k + 2)).toInt]) (S := []) m_L_56 hC (by decide) (Nat.le_refl _) rfl rfl (Nat.le_of_ble_eq_true rfl) (by decide +kernel : decode code 482 = .ok (.invokevirtual 56, 3)) ?_
  rintro x9 M1 ⟨rfl, hA1⟩
  refine r_aloadn h (q := 2) 2 rfl (by decide +kernel : decode code 485 = .ok (.aload_n 2, 1)) ?_
  refine r_aloadEn h (q := 0) 0 rfl (by decide +kernel : decode code 486 = .ok (.aload_n 0, 1)) ?_
  refine r_iload h 4 rfl (by decide +kernel : decode code 487 = .ok (.iload 4, 2)) ?_
  refine r_iconst h (v := 1) (by decide +kernel : decode code 489 = .ok (.iconst 1, 1)) ?_
  refine r_iadd h (by decide +kernel : decode code 490 = .ok (.iadd, 1)) ?_
  refine r_sld hW hg (7 * k + 1) (by omega) (by omega) (by omega) (by decide +kernel : decode code 491 = .ok (.iaload, 1)) ?_
  refine r_aloadEn h (q := 0) 0 rfl (by decide +kernel : decode code 492 = .ok (.aload_n 0, 1)) ?_
  refine r_iload h 4 rfl (by decide +kernel : decode code 493 = .ok (.iload 4, 2)) ?_
  refine r_iconst h (v := 2) (by decide +kernel : decode code 495 = .ok (.iconst 2, 1)) ?_
  refine r_iadd h (by decide +kernel : decode code 496 = .ok (.iadd, 1)) ?_
  refine r_sld hW hg (7 * k + 2) (by omega) (by omega) (by omega) (by decide +kernel : decode code 497 = .ok (.iaload, 1)) ?_
  refine r_callM h (as := [vi (xs (7 * k + 1)).toInt, vi (xs (7 * k + 2)).toInt]) (S := [vi x9]) m_L_59 hD (fun _ _ _ => rfl) (by decide) (Nat.le_refl _) rfl rfl (Nat.le_of_ble_eq_true rfl) (by decide +kernel : decode code 498 = .ok (.invokevirtual 59, 3)) ?_
  rintro _ N1 ⟨rfl, hA2⟩
  refine r_icmp_same h 1208 (by decide) (by decide +kernel : decode code 501 = .ok (.if_icmp .eq 707, 3)) ?_
  obtain ⟨t9, tb9, hS9⟩ := hF M1 N1 hA1 hA2
  exact hJ g M1 N1 o t9 tb9 (by omega) hS9
set_option maxHeartbeats 4000000 in
set_option maxRecDepth 100000 in
theorem lc_put {b Ls : Nat} {xs : Nat → Int32} {Kf : Nat → Nat → Rr → Nat → List (Nat × AV) → List AV → Mm → Prop} (hW : LW b Ls xs Kf) (hLs : Ls ≤ 3584) {g k : Nat} (hgk : g ≤ k) (hk : 7 * k + 7 ≤ Ls) {t : TT} {tb : Nat} {M N : Mm} {o : Nat → Int} (hS : Sim t tb k M N) (hJ : JN Kf k) : Kf g 246 RRL 506 (LL k) [] (ML M N o) := by
  have hg : g ≤ 600 := by omega
  have h := hW.ek hg
  obtain ⟨r9, A9, A9', hC, hD, hF⟩ : Op (S_Main_put ((xs (7 * k + 1)).toInt) ((xs (7 * k + 2)).toInt)) (S_Mod_put ((xs (7 * k + 1)).toInt) ((xs (7 * k + 2)).toInt)) k M N := op_put (rng_toInt _) (rng_toInt _) hS
  refine r_aloadn h (q := 1) 1 rfl (by decide +kernel : decode code 506 = .ok (.aload_n 1, 1)) ?_
  refine r_aloadEn h (q := 0) 0 rfl (by decide +kernel : decode code 507 = .ok (.aload_n 0, 1)) ?_
  refine r_iload h 4 rfl (by decide +kernel : decode code 508 = .ok (.iload 4, 2)) ?_
  refine r_iconst h (v := 1) (by decide +kernel : decode code 510 = .ok (.iconst 1, 1)) ?_
  refine r_iadd h (by decide +kernel : decode code 511 = .ok (.iadd, 1)) ?_
  refine r_sld hW hg (7 * k + 1) (by omega) (by omega) (by omega) (by decide +kernel : decode code 512 = .ok (.iaload, 1)) ?_
  refine r_aloadEn h (q := 0) 0 rfl (by decide +kernel : decode code 513 = .ok (.aload_n 0, 1)) ?_
  refine r_iload h 4 rfl (by decide +kernel : decode code 514 = .ok (.iload 4, 2)) ?_
  refine r_iconst h (v := 2) (by decide +kernel : decode code 516 = .ok (.iconst 2, 1)) ?_
  refine r_iadd h (by decide +kernel : decode code 517 = .ok (.iadd, 1)) ?_
  refine r_sld hW hg (7 * k + 2) (by omega) (by omega) (by omega) (by decide +kernel : decode code 518 = .ok (.iaload, 1)) ?_
  refine r_callC h (as := [vi (xs (7 * k + 1)).toInt, vi (xs (7 * k + 2)).toInt]) (S := []) m_L_60 hC (by decide) (Nat.le_refl _) rfl rfl (Nat.le_of_ble_eq_true rfl) (by decide +kernel : decode code 519 = .ok (.invokevirtual 60, 3)) ?_
  rintro x9 M1 ⟨rfl, hA1⟩
  refine r_aloadn h (q := 2) 2 rfl (by decide +kernel : decode code 522 = .ok (.aload_n 2, 1)) ?_
  refine r_aloadEn h (q := 0) 0 rfl (by decide +kernel : decode code 523 = .ok (.aload_n 0, 1)) ?_
  refine r_iload h 4 rfl (by decide +kernel : decode code 524 = .ok (.iload 4, 2)) ?_
  refine r_iconst h (v := 1) (by decide +kernel : decode code 526 = .ok (.iconst 1, 1)) ?_
  refine r_iadd h (by decide +kernel : decode code 527 = .ok (.iadd, 1)) ?_
  refine r_sld hW hg (7 * k + 1) (by omega) (by omega) (by omega) (by decide +kernel : decode code 528 = .ok (.iaload, 1)) ?_
  refine r_aloadEn h (q := 0) 0 rfl (by decide +kernel : decode code 529 = .ok (.aload_n 0, 1)) ?_
  refine r_iload h 4 rfl (by decide +kernel : decode code 530 = .ok (.iload 4, 2)) ?_
  refine r_iconst h (v := 2) (by decide +kernel : decode code 532 = .ok (.iconst 2, 1)) ?_
  refine r_iadd h (by decide +kernel : decode code 533 = .ok (.iadd, 1)) ?_
  refine r_sld hW hg (7 * k + 2) (by omega) (by omega) (by omega) (by decide +kernel : decode code 534 = .ok (.iaload, 1)) ?_
  refine r_callM h (as := [vi (xs (7 * k + 1)).toInt, vi (xs (7 * k + 2)).toInt]) (S := [vi x9]) m_L_64 hD (fun _ _ _ => rfl) (by decide) (Nat.le_refl _) rfl rfl (Nat.le_of_ble_eq_true rfl) (by decide +kernel : decode code 535 = .ok (.invokevirtual 64, 3)) ?_
  rintro _ N1 ⟨rfl, hA2⟩
  refine r_icmp_same h 1208 (by decide) (by decide +kernel : decode code 538 = .ok (.if_icmp .eq 670, 3)) ?_
  obtain ⟨t9, tb9, hS9⟩ := hF M1 N1 hA1 hA2
  exact hJ g M1 N1 o t9 tb9 (by omega) hS9
set_option maxHeartbeats 4000000 in
set_option maxRecDepth 100000 in
theorem lc_road {b Ls : Nat} {xs : Nat → Int32} {Kf : Nat → Nat → Rr → Nat → List (Nat × AV) → List AV → Mm → Prop} (hW : LW b Ls xs Kf) (hLs : Ls ≤ 3584) {g k : Nat} (hgk : g ≤ k) (hk : 7 * k + 7 ≤ Ls) {t : TT} {tb : Nat} {M N : Mm} {o : Nat → Int} (hS : Sim t tb k M N) (hJ : JN Kf k) : Kf g 246 RRL 543 (LL k) [] (ML M N o) := by
  have hg : g ≤ 600 := by omega
  have h := hW.ek hg
  obtain ⟨r9, A9, A9', hC, hD, hF⟩ : Op (S_Main_road ((xs (7 * k + 1)).toInt)) (S_Mod_road ((xs (7 * k + 1)).toInt)) k M N := op_road (rng_toInt _) hS
  refine r_aloadn h (q := 1) 1 rfl (by decide +kernel : decode code 543 = .ok (.aload_n 1, 1)) ?_
  refine r_aloadEn h (q := 0) 0 rfl (by decide +kernel : decode code 544 = .ok (.aload_n 0, 1)) ?_
  refine r_iload h 4 rfl (by decide +kernel : decode code 545 = .ok (.iload 4, 2)) ?_
  refine r_iconst h (v := 1) (by decide +kernel : decode code 547 = .ok (.iconst 1, 1)) ?_
  refine r_iadd h (by decide +kernel : decode code 548 = .ok (.iadd, 1)) ?_
  refine r_sld hW hg (7 * k + 1) (by omega) (by omega) (by omega) (by decide +kernel : decode code 549 = .ok (.iaload, 1)) ?_
  refine r_callC h (as := [vi (xs (7 * k + 1)).toInt]) (S := []) m_L_65 hC (by decide) (Nat.le_refl _) rfl rfl (Nat.le_of_ble_eq_true rfl) (by decide +kernel : decode code 550 = .ok (.invokevirtual 65, 3)) ?_
  rintro x9 M1 ⟨rfl, hA1⟩
  refine r_aloadn h (q := 2) 2 rfl (by decide +kernel : decode code 553 = .ok (.aload_n 2, 1)) ?_
  refine r_aloadEn h (q := 0) 0 rfl (by decide +kernel : decode code 554 = .ok (.aload_n 0, 1)) ?_
  refine r_iload h 4 rfl (by decide +kernel : decode code 555 = .ok (.iload 4, 2)) ?_
  refine r_iconst h (v := 1) (by decide +kernel : decode code 557 = .ok (.iconst 1, 1)) ?_
  refine r_iadd h (by decide +kernel : decode code 558 = .ok (.iadd, 1)) ?_
  refine r_sld hW hg (7 * k + 1) (by omega) (by omega) (by omega) (by decide +kernel : decode code 559 = .ok (.iaload, 1)) ?_
  refine r_callM h (as := [vi (xs (7 * k + 1)).toInt]) (S := [vi x9]) m_L_69 hD (fun _ _ _ => rfl) (by decide) (Nat.le_refl _) rfl rfl (Nat.le_of_ble_eq_true rfl) (by decide +kernel : decode code 560 = .ok (.invokevirtual 69, 3)) ?_
  rintro _ N1 ⟨rfl, hA2⟩
  refine r_icmp_same h 1208 (by decide) (by decide +kernel : decode code 563 = .ok (.if_icmp .eq 645, 3)) ?_
  obtain ⟨t9, tb9, hS9⟩ := hF M1 N1 hA1 hA2
  exact hJ g M1 N1 o t9 tb9 (by omega) hS9
set_option maxHeartbeats 4000000 in
set_option maxRecDepth 100000 in
theorem lc_run {b Ls : Nat} {xs : Nat → Int32} {Kf : Nat → Nat → Rr → Nat → List (Nat × AV) → List AV → Mm → Prop} (hW : LW b Ls xs Kf) (hLs : Ls ≤ 3584) {g k : Nat} (hgk : g ≤ k) (hk : 7 * k + 7 ≤ Ls) {t : TT} {tb : Nat} {M N : Mm} {o : Nat → Int} (hS : Sim t tb k M N) (hJ : JN Kf k) : Kf g 246 RRL 568 (LL k) [] (ML M N o) := by
  have hg : g ≤ 600 := by omega
  have h := hW.ek hg
  obtain ⟨r9, A9, A9', hC, hD, hF⟩ : Op (S_Main_run) (S_Mod_run) k M N := op_run (by omega) hS
  refine r_aloadn h (q := 1) 1 rfl (by decide +kernel : decode code 568 = .ok (.aload_n 1, 1)) ?_
  refine r_callC h (as := []) (S := []) m_L_70 hC (by decide) (Nat.le_refl _) rfl rfl (Nat.le_of_ble_eq_true rfl) (by decide +kernel : decode code 569 = .ok (.invokevirtual 70, 3)) ?_
  rintro x9 M1 ⟨rfl, hA1⟩
  refine r_aloadn h (q := 2) 2 rfl (by decide +kernel : decode code 572 = .ok (.aload_n 2, 1)) ?_
  refine r_callM h (as := []) (S := [vi x9]) m_L_73 hD (fun _ _ _ => rfl) (by decide) (Nat.le_refl _) rfl rfl (Nat.le_of_ble_eq_true rfl) (by decide +kernel : decode code 573 = .ok (.invokevirtual 73, 3)) ?_
  rintro _ N1 ⟨rfl, hA2⟩
  refine r_icmp_same h 1208 (by decide) (by decide +kernel : decode code 576 = .ok (.if_icmp .eq 632, 3)) ?_
  obtain ⟨t9, tb9, hS9⟩ := hF M1 N1 hA1 hA2
  exact hJ g M1 N1 o t9 tb9 (by omega) hS9
set_option maxHeartbeats 4000000 in
set_option maxRecDepth 100000 in
theorem lc_sell {b Ls : Nat} {xs : Nat → Int32} {Kf : Nat → Nat → Rr → Nat → List (Nat × AV) → List AV → Mm → Prop} (hW : LW b Ls xs Kf) (hLs : Ls ≤ 3584) {g k : Nat} (hgk : g ≤ k) (hk : 7 * k + 7 ≤ Ls) {t : TT} {tb : Nat} {M N : Mm} {o : Nat → Int} (hS : Sim t tb k M N) (hJ : JN Kf k) : Kf g 246 RRL 581 (LL k) [] (ML M N o) := by
  have hg : g ≤ 600 := by omega
  have h := hW.ek hg
  obtain ⟨r9, A9, A9', hC, hD, hF⟩ : Op (S_Main_sell ((xs (7 * k + 1)).toInt)) (S_Mod_sell ((xs (7 * k + 1)).toInt)) k M N := op_sell (rng_toInt _) hS
  refine r_aloadn h (q := 1) 1 rfl (by decide +kernel : decode code 581 = .ok (.aload_n 1, 1)) ?_
  refine r_aloadEn h (q := 0) 0 rfl (by decide +kernel : decode code 582 = .ok (.aload_n 0, 1)) ?_
  refine r_iload h 4 rfl (by decide +kernel : decode code 583 = .ok (.iload 4, 2)) ?_
  refine r_iconst h (v := 1) (by decide +kernel : decode code 585 = .ok (.iconst 1, 1)) ?_
  refine r_iadd h (by decide +kernel : decode code 586 = .ok (.iadd, 1)) ?_
  refine r_sld hW hg (7 * k + 1) (by omega) (by omega) (by omega) (by decide +kernel : decode code 587 = .ok (.iaload, 1)) ?_
  refine r_callC h (as := [vi (xs (7 * k + 1)).toInt]) (S := []) m_L_74 hC (by decide) (Nat.le_refl _) rfl rfl (Nat.le_of_ble_eq_true rfl) (by decide +kernel : decode code 588 = .ok (.invokevirtual 74, 3)) ?_
  rintro x9 M1 ⟨rfl, hA1⟩
  refine r_aloadn h (q := 2) 2 rfl (by decide +kernel : decode code 591 = .ok (.aload_n 2, 1)) ?_
  refine r_aloadEn h (q := 0) 0 rfl (by decide +kernel : decode code 592 = .ok (.aload_n 0, 1)) ?_
  refine r_iload h 4 rfl (by decide +kernel : decode code 593 = .ok (.iload 4, 2)) ?_
  refine r_iconst h (v := 1) (by decide +kernel : decode code 595 = .ok (.iconst 1, 1)) ?_
  refine r_iadd h (by decide +kernel : decode code 596 = .ok (.iadd, 1)) ?_
  refine r_sld hW hg (7 * k + 1) (by omega) (by omega) (by omega) (by decide +kernel : decode code 597 = .ok (.iaload, 1)) ?_
  refine r_callM h (as := [vi (xs (7 * k + 1)).toInt]) (S := [vi x9]) m_L_77 hD (fun _ _ _ => rfl) (by decide) (Nat.le_refl _) rfl rfl (Nat.le_of_ble_eq_true rfl) (by decide +kernel : decode code 598 = .ok (.invokevirtual 77, 3)) ?_
  rintro _ N1 ⟨rfl, hA2⟩
  refine r_icmp_same h 1208 (by decide) (by decide +kernel : decode code 601 = .ok (.if_icmp .eq 607, 3)) ?_
  obtain ⟨t9, tb9, hS9⟩ := hF M1 N1 hA1 hA2
  exact hJ g M1 N1 o t9 tb9 (by omega) hS9
set_option maxHeartbeats 4000000 in
set_option maxRecDepth 100000 in
theorem lc_undo {b Ls : Nat} {xs : Nat → Int32} {Kf : Nat → Nat → Rr → Nat → List (Nat × AV) → List AV → Mm → Prop} (hW : LW b Ls xs Kf) (hLs : Ls ≤ 3584) {g k : Nat} (hgk : g ≤ k) (hk : 7 * k + 7 ≤ Ls) {t : TT} {tb : Nat} {M N : Mm} {o : Nat → Int} (hS : Sim t tb k M N) (hJ : JN Kf k) : Kf g 246 RRL 606 (LL k) [] (ML M N o) := by
  have hg : g ≤ 600 := by omega
  have h := hW.ek hg
  obtain ⟨r9, A9, A9', hC, hD, hF⟩ : Op (S_Main_undo) (S_Mod_undo) k M N := op_undo hS
  refine r_aloadn h (q := 1) 1 rfl (by decide +kernel : decode code 606 = .ok (.aload_n 1, 1)) ?_
  refine r_callC h (as := []) (S := []) m_L_78 hC (by decide) (Nat.le_refl _) rfl rfl (Nat.le_of_ble_eq_true rfl) (by decide +kernel : decode code 607 = .ok (.invokevirtual 78, 3)) ?_
  rintro x9 M1 ⟨rfl, hA1⟩
  refine r_aloadn h (q := 2) 2 rfl (by decide +kernel : decode code 610 = .ok (.aload_n 2, 1)) ?_
  refine r_callM h (as := []) (S := [vi x9]) m_L_82 hD (fun _ _ _ => rfl) (by decide) (Nat.le_refl _) rfl rfl (Nat.le_of_ble_eq_true rfl) (by decide +kernel : decode code 611 = .ok (.invokevirtual 82, 3)) ?_
  rintro _ N1 ⟨rfl, hA2⟩
  refine r_icmp_same h 1208 (by decide) (by decide +kernel : decode code 614 = .ok (.if_icmp .eq 594, 3)) ?_
  obtain ⟨t9, tb9, hS9⟩ := hF M1 N1 hA1 hA2
  exact hJ g M1 N1 o t9 tb9 (by omega) hS9
set_option maxHeartbeats 4000000 in
set_option maxRecDepth 100000 in
theorem lc_judged {b Ls : Nat} {xs : Nat → Int32} {Kf : Nat → Nat → Rr → Nat → List (Nat × AV) → List AV → Mm → Prop} (hW : LW b Ls xs Kf) (hLs : Ls ≤ 3584) {g k : Nat} (hgk : g ≤ k) (hk : 7 * k + 7 ≤ Ls) {t : TT} {tb : Nat} {M N : Mm} {o : Nat → Int} (hS : Sim t tb k M N) (hJ : JN Kf k) : Kf g 246 RRL 619 (LL k) [] (ML M N o) := by
  have hg : g ≤ 600 := by omega
  have h := hW.ek hg
  obtain ⟨r9, A9, A9', hC, hD, hF⟩ : Op (S_Main_judged ((xs (7 * k + 1)).toInt)) (S_Mod_judged ((xs (7 * k + 1)).toInt)) k M N := op_judged (rng_toInt _) hS
  refine r_aloadn h (q := 1) 1 rfl (by decide +kernel : decode code 619 = .ok (.aload_n 1, 1)) ?_
  refine r_aloadEn h (q := 0) 0 rfl (by decide +kernel : decode code 620 = .ok (.aload_n 0, 1)) ?_
  refine r_iload h 4 rfl (by decide +kernel : decode code 621 = .ok (.iload 4, 2)) ?_
  refine r_iconst h (v := 1) (by decide +kernel : decode code 623 = .ok (.iconst 1, 1)) ?_
  refine r_iadd h (by decide +kernel : decode code 624 = .ok (.iadd, 1)) ?_
  refine r_sld hW hg (7 * k + 1) (by omega) (by omega) (by omega) (by decide +kernel : decode code 625 = .ok (.iaload, 1)) ?_
  refine r_callC h (as := [vi (xs (7 * k + 1)).toInt]) (S := []) m_L_83 hC (by decide) (Nat.le_refl _) rfl rfl (Nat.le_of_ble_eq_true rfl) (by decide +kernel : decode code 626 = .ok (.invokevirtual 83, 3)) ?_
  rintro x9 M1 ⟨rfl, hA1⟩
  refine r_aloadn h (q := 2) 2 rfl (by decide +kernel : decode code 629 = .ok (.aload_n 2, 1)) ?_
  refine r_aloadEn h (q := 0) 0 rfl (by decide +kernel : decode code 630 = .ok (.aload_n 0, 1)) ?_
  refine r_iload h 4 rfl (by decide +kernel : decode code 631 = .ok (.iload 4, 2)) ?_
  refine r_iconst h (v := 1) (by decide +kernel : decode code 633 = .ok (.iconst 1, 1)) ?_
  refine r_iadd h (by decide +kernel : decode code 634 = .ok (.iadd, 1)) ?_
  refine r_sld hW hg (7 * k + 1) (by omega) (by omega) (by omega) (by decide +kernel : decode code 635 = .ok (.iaload, 1)) ?_
  refine r_callM h (as := [vi (xs (7 * k + 1)).toInt]) (S := [vi x9]) m_L_86 hD (fun _ _ _ => rfl) (by decide) (Nat.le_refl _) rfl rfl (Nat.le_of_ble_eq_true rfl) (by decide +kernel : decode code 636 = .ok (.invokevirtual 86, 3)) ?_
  rintro _ N1 ⟨rfl, hA2⟩
  refine r_icmp_same h 1208 (by decide) (by decide +kernel : decode code 639 = .ok (.if_icmp .eq 569, 3)) ?_
  obtain ⟨t9, tb9, hS9⟩ := hF M1 N1 hA1 hA2
  exact hJ g M1 N1 o t9 tb9 (by omega) hS9
set_option maxHeartbeats 4000000 in
set_option maxRecDepth 100000 in
theorem lc_shunned {b Ls : Nat} {xs : Nat → Int32} {Kf : Nat → Nat → Rr → Nat → List (Nat × AV) → List AV → Mm → Prop} (hW : LW b Ls xs Kf) (hLs : Ls ≤ 3584) {g k : Nat} (hgk : g ≤ k) (hk : 7 * k + 7 ≤ Ls) {t : TT} {tb : Nat} {M N : Mm} {o : Nat → Int} (hS : Sim t tb k M N) (hJ : JN Kf k) : Kf g 246 RRL 644 (LL k) [] (ML M N o) := by
  have hg : g ≤ 600 := by omega
  have h := hW.ek hg
  obtain ⟨r9, A9, A9', hC, hD, hF⟩ : Op (S_Main_shunned) (S_Mod_shunned) k M N := op_shunned hS
  refine r_aloadn h (q := 1) 1 rfl (by decide +kernel : decode code 644 = .ok (.aload_n 1, 1)) ?_
  refine r_callC h (as := []) (S := []) m_L_87 hC (by decide) (Nat.le_refl _) rfl rfl (Nat.le_of_ble_eq_true rfl) (by decide +kernel : decode code 645 = .ok (.invokevirtual 87, 3)) ?_
  rintro x9 M1 ⟨rfl, hA1⟩
  refine r_aloadn h (q := 2) 2 rfl (by decide +kernel : decode code 648 = .ok (.aload_n 2, 1)) ?_
  refine r_callM h (as := []) (S := [vi x9]) m_L_90 hD (fun _ _ _ => rfl) (by decide) (Nat.le_refl _) rfl rfl (Nat.le_of_ble_eq_true rfl) (by decide +kernel : decode code 649 = .ok (.invokevirtual 90, 3)) ?_
  rintro _ N1 ⟨rfl, hA2⟩
  refine r_icmp_same h 1208 (by decide) (by decide +kernel : decode code 652 = .ok (.if_icmp .eq 556, 3)) ?_
  obtain ⟨t9, tb9, hS9⟩ := hF M1 N1 hA1 hA2
  exact hJ g M1 N1 o t9 tb9 (by omega) hS9
set_option maxHeartbeats 4000000 in
set_option maxRecDepth 100000 in
theorem lc_best {b Ls : Nat} {xs : Nat → Int32} {Kf : Nat → Nat → Rr → Nat → List (Nat × AV) → List AV → Mm → Prop} (hW : LW b Ls xs Kf) (hLs : Ls ≤ 3584) {g k : Nat} (hgk : g ≤ k) (hk : 7 * k + 7 ≤ Ls) {t : TT} {tb : Nat} {M N : Mm} {o : Nat → Int} (hS : Sim t tb k M N) (hJ : JN Kf k) : Kf g 246 RRL 657 (LL k) [] (ML M N o) := by
  have hg : g ≤ 600 := by omega
  have h := hW.ek hg
  obtain ⟨r9, A9, A9', hC, hD, hF⟩ : Op (S_Main_best ((xs (7 * k + 1)).toInt)) (S_Mod_best ((xs (7 * k + 1)).toInt)) k M N := op_best (rng_toInt _) hS
  refine r_aloadn h (q := 1) 1 rfl (by decide +kernel : decode code 657 = .ok (.aload_n 1, 1)) ?_
  refine r_aloadEn h (q := 0) 0 rfl (by decide +kernel : decode code 658 = .ok (.aload_n 0, 1)) ?_
  refine r_iload h 4 rfl (by decide +kernel : decode code 659 = .ok (.iload 4, 2)) ?_
  refine r_iconst h (v := 1) (by decide +kernel : decode code 661 = .ok (.iconst 1, 1)) ?_
  refine r_iadd h (by decide +kernel : decode code 662 = .ok (.iadd, 1)) ?_
  refine r_sld hW hg (7 * k + 1) (by omega) (by omega) (by omega) (by decide +kernel : decode code 663 = .ok (.iaload, 1)) ?_
  refine r_callC h (as := [vi (xs (7 * k + 1)).toInt]) (S := []) m_L_91 hC (by decide) (Nat.le_refl _) rfl rfl (Nat.le_of_ble_eq_true rfl) (by decide +kernel : decode code 664 = .ok (.invokevirtual 91, 3)) ?_
  rintro x9 M1 ⟨rfl, hA1⟩
  refine r_aloadn h (q := 2) 2 rfl (by decide +kernel : decode code 667 = .ok (.aload_n 2, 1)) ?_
  refine r_aloadEn h (q := 0) 0 rfl (by decide +kernel : decode code 668 = .ok (.aload_n 0, 1)) ?_
  refine r_iload h 4 rfl (by decide +kernel : decode code 669 = .ok (.iload 4, 2)) ?_
  refine r_iconst h (v := 1) (by decide +kernel : decode code 671 = .ok (.iconst 1, 1)) ?_
  refine r_iadd h (by decide +kernel : decode code 672 = .ok (.iadd, 1)) ?_
  refine r_sld hW hg (7 * k + 1) (by omega) (by omega) (by omega) (by decide +kernel : decode code 673 = .ok (.iaload, 1)) ?_
  refine r_callM h (as := [vi (xs (7 * k + 1)).toInt]) (S := [vi x9]) m_L_94 hD (fun _ _ _ => rfl) (by decide) (Nat.le_refl _) rfl rfl (Nat.le_of_ble_eq_true rfl) (by decide +kernel : decode code 674 = .ok (.invokevirtual 94, 3)) ?_
  rintro _ N1 ⟨rfl, hA2⟩
  refine r_icmp_same h 1208 (by decide) (by decide +kernel : decode code 677 = .ok (.if_icmp .eq 531, 3)) ?_
  obtain ⟨t9, tb9, hS9⟩ := hF M1 N1 hA1 hA2
  exact hJ g M1 N1 o t9 tb9 (by omega) hS9
set_option maxHeartbeats 4000000 in
set_option maxRecDepth 100000 in
theorem lc_around {b Ls : Nat} {xs : Nat → Int32} {Kf : Nat → Nat → Rr → Nat → List (Nat × AV) → List AV → Mm → Prop} (hW : LW b Ls xs Kf) (hLs : Ls ≤ 3584) {g k : Nat} (hgk : g ≤ k) (hk : 7 * k + 7 ≤ Ls) {t : TT} {tb : Nat} {M N : Mm} {o : Nat → Int} (hS : Sim t tb k M N) (hJ : JN Kf k) : Kf g 246 RRL 682 (LL k) [] (ML M N o) := by
  have hg : g ≤ 600 := by omega
  have h := hW.ek hg
  obtain ⟨r9, A9, A9', hC, hD, hF⟩ : Op (S_Main_around) (S_Mod_around) k M N := op_around hS
  refine r_aloadn h (q := 1) 1 rfl (by decide +kernel : decode code 682 = .ok (.aload_n 1, 1)) ?_
  refine r_callC h (as := []) (S := []) m_L_95 hC (by decide) (Nat.le_refl _) rfl rfl (Nat.le_of_ble_eq_true rfl) (by decide +kernel : decode code 683 = .ok (.invokevirtual 95, 3)) ?_
  rintro x9 M1 ⟨rfl, hA1⟩
  refine r_aloadn h (q := 2) 2 rfl (by decide +kernel : decode code 686 = .ok (.aload_n 2, 1)) ?_
  refine r_callM h (as := []) (S := [vi x9]) m_L_98 hD (fun _ _ _ => rfl) (by decide) (Nat.le_refl _) rfl rfl (Nat.le_of_ble_eq_true rfl) (by decide +kernel : decode code 687 = .ok (.invokevirtual 98, 3)) ?_
  rintro _ N1 ⟨rfl, hA2⟩
  refine r_icmp_same h 1208 (by decide) (by decide +kernel : decode code 690 = .ok (.if_icmp .eq 518, 3)) ?_
  obtain ⟨t9, tb9, hS9⟩ := hF M1 N1 hA1 hA2
  exact hJ g M1 N1 o t9 tb9 (by omega) hS9
set_option maxHeartbeats 4000000 in
set_option maxRecDepth 100000 in
theorem lc_till {b Ls : Nat} {xs : Nat → Int32} {Kf : Nat → Nat → Rr → Nat → List (Nat × AV) → List AV → Mm → Prop} (hW : LW b Ls xs Kf) (hLs : Ls ≤ 3584) {g k : Nat} (hgk : g ≤ k) (hk : 7 * k + 7 ≤ Ls) {t : TT} {tb : Nat} {M N : Mm} {o : Nat → Int} (hS : Sim t tb k M N) (hJ : JN Kf k) : Kf g 246 RRL 695 (LL k) [] (ML M N o) := by
  have hg : g ≤ 600 := by omega
  have h := hW.ek hg
  obtain ⟨r9, A9, A9', hC, hD, hF⟩ : Op (S_Main_till ((xs (7 * k + 1)).toInt)) (S_Mod_till ((xs (7 * k + 1)).toInt)) k M N := op_till (rng_toInt _) (by omega) hS
  refine r_aloadn h (q := 1) 1 rfl (by decide +kernel : decode code 695 = .ok (.aload_n 1, 1)) ?_
  refine r_aloadEn h (q := 0) 0 rfl (by decide +kernel : decode code 696 = .ok (.aload_n 0, 1)) ?_
  refine r_iload h 4 rfl (by decide +kernel : decode code 697 = .ok (.iload 4, 2)) ?_
  refine r_iconst h (v := 1) (by decide +kernel : decode code 699 = .ok (.iconst 1, 1)) ?_
  refine r_iadd h (by decide +kernel : decode code 700 = .ok (.iadd, 1)) ?_
  refine r_sld hW hg (7 * k + 1) (by omega) (by omega) (by omega) (by decide +kernel : decode code 701 = .ok (.iaload, 1)) ?_
  refine r_callC h (as := [vi (xs (7 * k + 1)).toInt]) (S := []) m_L_99 hC (by decide) (Nat.le_refl _) rfl rfl (Nat.le_of_ble_eq_true rfl) (by decide +kernel : decode code 702 = .ok (.invokevirtual 99, 3)) ?_
  rintro x9 M1 ⟨rfl, hA1⟩
  refine r_aloadn h (q := 2) 2 rfl (by decide +kernel : decode code 705 = .ok (.aload_n 2, 1)) ?_
  refine r_aloadEn h (q := 0) 0 rfl (by decide +kernel : decode code 706 = .ok (.aload_n 0, 1)) ?_
  refine r_iload h 4 rfl (by decide +kernel : decode code 707 = .ok (.iload 4, 2)) ?_
  refine r_iconst h (v := 1) (by decide +kernel : decode code 709 = .ok (.iconst 1, 1)) ?_
  refine r_iadd h (by decide +kernel : decode code 710 = .ok (.iadd, 1)) ?_
  refine r_sld hW hg (7 * k + 1) (by omega) (by omega) (by omega) (by decide +kernel : decode code 711 = .ok (.iaload, 1)) ?_
  refine r_callM h (as := [vi (xs (7 * k + 1)).toInt]) (S := [vi x9]) m_L_102 hD (fun _ _ _ => rfl) (by decide) (Nat.le_refl _) rfl rfl (Nat.le_of_ble_eq_true rfl) (by decide +kernel : decode code 712 = .ok (.invokevirtual 102, 3)) ?_
  rintro _ N1 ⟨rfl, hA2⟩
  refine r_icmp_same h 1208 (by decide) (by decide +kernel : decode code 715 = .ok (.if_icmp .eq 493, 3)) ?_
  obtain ⟨t9, tb9, hS9⟩ := hF M1 N1 hA1 hA2
  exact hJ g M1 N1 o t9 tb9 (by omega) hS9
set_option maxHeartbeats 4000000 in
set_option maxRecDepth 100000 in
theorem lc_dry {b Ls : Nat} {xs : Nat → Int32} {Kf : Nat → Nat → Rr → Nat → List (Nat × AV) → List AV → Mm → Prop} (hW : LW b Ls xs Kf) (hLs : Ls ≤ 3584) {g k : Nat} (hgk : g ≤ k) (hk : 7 * k + 7 ≤ Ls) {t : TT} {tb : Nat} {M N : Mm} {o : Nat → Int} (hS : Sim t tb k M N) (hJ : JN Kf k) : Kf g 246 RRL 720 (LL k) [] (ML M N o) := by
  have hg : g ≤ 600 := by omega
  have h := hW.ek hg
  obtain ⟨r9, A9, A9', hC, hD, hF⟩ : Op (S_Main_dry ((xs (7 * k + 1)).toInt)) (S_Mod_dry ((xs (7 * k + 1)).toInt)) k M N := op_dry (rng_toInt _) (by omega) hS
  refine r_aloadn h (q := 1) 1 rfl (by decide +kernel : decode code 720 = .ok (.aload_n 1, 1)) ?_
  refine r_aloadEn h (q := 0) 0 rfl (by decide +kernel : decode code 721 = .ok (.aload_n 0, 1)) ?_
  refine r_iload h 4 rfl (by decide +kernel : decode code 722 = .ok (.iload 4, 2)) ?_
  refine r_iconst h (v := 1) (by decide +kernel : decode code 724 = .ok (.iconst 1, 1)) ?_
  refine r_iadd h (by decide +kernel : decode code 725 = .ok (.iadd, 1)) ?_
  refine r_sld hW hg (7 * k + 1) (by omega) (by omega) (by omega) (by decide +kernel : decode code 726 = .ok (.iaload, 1)) ?_
  refine r_callC h (as := [vi (xs (7 * k + 1)).toInt]) (S := []) m_L_103 hC (by decide) (Nat.le_refl _) rfl rfl (Nat.le_of_ble_eq_true rfl) (by decide +kernel : decode code 727 = .ok (.invokevirtual 103, 3)) ?_
  rintro x9 M1 ⟨rfl, hA1⟩
  refine r_aloadn h (q := 2) 2 rfl (by decide +kernel : decode code 730 = .ok (.aload_n 2, 1)) ?_
  refine r_aloadEn h (q := 0) 0 rfl (by decide +kernel : decode code 731 = .ok (.aload_n 0, 1)) ?_
  refine r_iload h 4 rfl (by decide +kernel : decode code 732 = .ok (.iload 4, 2)) ?_
  refine r_iconst h (v := 1) (by decide +kernel : decode code 734 = .ok (.iconst 1, 1)) ?_
  refine r_iadd h (by decide +kernel : decode code 735 = .ok (.iadd, 1)) ?_
  refine r_sld hW hg (7 * k + 1) (by omega) (by omega) (by omega) (by decide +kernel : decode code 736 = .ok (.iaload, 1)) ?_
  refine r_callM h (as := [vi (xs (7 * k + 1)).toInt]) (S := [vi x9]) m_L_106 hD (fun _ _ _ => rfl) (by decide) (Nat.le_refl _) rfl rfl (Nat.le_of_ble_eq_true rfl) (by decide +kernel : decode code 737 = .ok (.invokevirtual 106, 3)) ?_
  rintro _ N1 ⟨rfl, hA2⟩
  refine r_icmp_same h 1208 (by decide) (by decide +kernel : decode code 740 = .ok (.if_icmp .eq 468, 3)) ?_
  obtain ⟨t9, tb9, hS9⟩ := hF M1 N1 hA1 hA2
  exact hJ g M1 N1 o t9 tb9 (by omega) hS9
set_option maxHeartbeats 4000000 in
set_option maxRecDepth 100000 in
theorem lc_hear {b Ls : Nat} {xs : Nat → Int32} {Kf : Nat → Nat → Rr → Nat → List (Nat × AV) → List AV → Mm → Prop} (hW : LW b Ls xs Kf) (hLs : Ls ≤ 3584) {g k : Nat} (hgk : g ≤ k) (hk : 7 * k + 7 ≤ Ls) {t : TT} {tb : Nat} {M N : Mm} {o : Nat → Int} (hS : Sim t tb k M N) (hJ : JN Kf k) : Kf g 246 RRL 745 (LL k) [] (ML M N o) := by
  have hg : g ≤ 600 := by omega
  have h := hW.ek hg
  obtain ⟨r9, A9, A9', hC, hD, hF⟩ : Op (S_Main_hear ((xs (7 * k + 1)).toInt)) (S_Mod_hear ((xs (7 * k + 1)).toInt)) k M N := op_hear (rng_toInt _) hS
  refine r_aloadn h (q := 1) 1 rfl (by decide +kernel : decode code 745 = .ok (.aload_n 1, 1)) ?_
  refine r_aloadEn h (q := 0) 0 rfl (by decide +kernel : decode code 746 = .ok (.aload_n 0, 1)) ?_
  refine r_iload h 4 rfl (by decide +kernel : decode code 747 = .ok (.iload 4, 2)) ?_
  refine r_iconst h (v := 1) (by decide +kernel : decode code 749 = .ok (.iconst 1, 1)) ?_
  refine r_iadd h (by decide +kernel : decode code 750 = .ok (.iadd, 1)) ?_
  refine r_sld hW hg (7 * k + 1) (by omega) (by omega) (by omega) (by decide +kernel : decode code 751 = .ok (.iaload, 1)) ?_
  refine r_callC h (as := [vi (xs (7 * k + 1)).toInt]) (S := []) m_L_107 hC (by decide) (Nat.le_refl _) rfl rfl (Nat.le_of_ble_eq_true rfl) (by decide +kernel : decode code 752 = .ok (.invokevirtual 107, 3)) ?_
  rintro x9 M1 ⟨rfl, hA1⟩
  refine r_aloadn h (q := 2) 2 rfl (by decide +kernel : decode code 755 = .ok (.aload_n 2, 1)) ?_
  refine r_aloadEn h (q := 0) 0 rfl (by decide +kernel : decode code 756 = .ok (.aload_n 0, 1)) ?_
  refine r_iload h 4 rfl (by decide +kernel : decode code 757 = .ok (.iload 4, 2)) ?_
  refine r_iconst h (v := 1) (by decide +kernel : decode code 759 = .ok (.iconst 1, 1)) ?_
  refine r_iadd h (by decide +kernel : decode code 760 = .ok (.iadd, 1)) ?_
  refine r_sld hW hg (7 * k + 1) (by omega) (by omega) (by omega) (by decide +kernel : decode code 761 = .ok (.iaload, 1)) ?_
  refine r_callM h (as := [vi (xs (7 * k + 1)).toInt]) (S := [vi x9]) m_L_110 hD (fun _ _ _ => rfl) (by decide) (Nat.le_refl _) rfl rfl (Nat.le_of_ble_eq_true rfl) (by decide +kernel : decode code 762 = .ok (.invokevirtual 110, 3)) ?_
  rintro _ N1 ⟨rfl, hA2⟩
  refine r_icmp_same h 1208 (by decide) (by decide +kernel : decode code 765 = .ok (.if_icmp .eq 443, 3)) ?_
  obtain ⟨t9, tb9, hS9⟩ := hF M1 N1 hA1 hA2
  exact hJ g M1 N1 o t9 tb9 (by omega) hS9
set_option maxHeartbeats 4000000 in
set_option maxRecDepth 100000 in
theorem lc_sets {b Ls : Nat} {xs : Nat → Int32} {Kf : Nat → Nat → Rr → Nat → List (Nat × AV) → List AV → Mm → Prop} (hW : LW b Ls xs Kf) (hLs : Ls ≤ 3584) {g k : Nat} (hgk : g ≤ k) (hk : 7 * k + 7 ≤ Ls) {t : TT} {tb : Nat} {M N : Mm} {o : Nat → Int} (hS : Sim t tb k M N) (hJ : JN Kf k) : Kf g 246 RRL 770 (LL k) [] (ML M N o) := by
  have hg : g ≤ 600 := by omega
  have h := hW.ek hg
  obtain ⟨r9, A9, A9', hC, hD, hF⟩ : Op (S_Main_sets ((xs (7 * k + 1)).toInt)) (S_Mod_sets ((xs (7 * k + 1)).toInt)) k M N := op_sets (rng_toInt _) hS
  refine r_aloadn h (q := 1) 1 rfl (by decide +kernel : decode code 770 = .ok (.aload_n 1, 1)) ?_
  refine r_aloadEn h (q := 0) 0 rfl (by decide +kernel : decode code 771 = .ok (.aload_n 0, 1)) ?_
  refine r_iload h 4 rfl (by decide +kernel : decode code 772 = .ok (.iload 4, 2)) ?_
  refine r_iconst h (v := 1) (by decide +kernel : decode code 774 = .ok (.iconst 1, 1)) ?_
  refine r_iadd h (by decide +kernel : decode code 775 = .ok (.iadd, 1)) ?_
  refine r_sld hW hg (7 * k + 1) (by omega) (by omega) (by omega) (by decide +kernel : decode code 776 = .ok (.iaload, 1)) ?_
  refine r_callC h (as := [vi (xs (7 * k + 1)).toInt]) (S := []) m_L_111 hC (by decide) (Nat.le_refl _) rfl rfl (Nat.le_of_ble_eq_true rfl) (by decide +kernel : decode code 777 = .ok (.invokevirtual 111, 3)) ?_
  rintro x9 M1 ⟨rfl, hA1⟩
  refine r_aloadn h (q := 2) 2 rfl (by decide +kernel : decode code 780 = .ok (.aload_n 2, 1)) ?_
  refine r_aloadEn h (q := 0) 0 rfl (by decide +kernel : decode code 781 = .ok (.aload_n 0, 1)) ?_
  refine r_iload h 4 rfl (by decide +kernel : decode code 782 = .ok (.iload 4, 2)) ?_
  refine r_iconst h (v := 1) (by decide +kernel : decode code 784 = .ok (.iconst 1, 1)) ?_
  refine r_iadd h (by decide +kernel : decode code 785 = .ok (.iadd, 1)) ?_
  refine r_sld hW hg (7 * k + 1) (by omega) (by omega) (by omega) (by decide +kernel : decode code 786 = .ok (.iaload, 1)) ?_
  refine r_callM h (as := [vi (xs (7 * k + 1)).toInt]) (S := [vi x9]) m_L_114 hD (fun _ _ _ => rfl) (by decide) (Nat.le_refl _) rfl rfl (Nat.le_of_ble_eq_true rfl) (by decide +kernel : decode code 787 = .ok (.invokevirtual 114, 3)) ?_
  rintro _ N1 ⟨rfl, hA2⟩
  refine r_icmp_same h 1208 (by decide) (by decide +kernel : decode code 790 = .ok (.if_icmp .eq 418, 3)) ?_
  obtain ⟨t9, tb9, hS9⟩ := hF M1 N1 hA1 hA2
  exact hJ g M1 N1 o t9 tb9 (by omega) hS9
set_option maxHeartbeats 4000000 in
set_option maxRecDepth 100000 in
theorem lc_look {b Ls : Nat} {xs : Nat → Int32} {Kf : Nat → Nat → Rr → Nat → List (Nat × AV) → List AV → Mm → Prop} (hW : LW b Ls xs Kf) (hLs : Ls ≤ 3584) {g k : Nat} (hgk : g ≤ k) (hk : 7 * k + 7 ≤ Ls) {t : TT} {tb : Nat} {M N : Mm} {o : Nat → Int} (hS : Sim t tb k M N) (hJ : JN Kf k) : Kf g 246 RRL 795 (LL k) [] (ML M N o) := by
  have hg : g ≤ 600 := by omega
  have h := hW.ek hg
  obtain ⟨r9, A9, A9', hC, hD, hF⟩ : Op (S_Main_look) (S_Mod_look) k M N := op_look hS
  refine r_aloadn h (q := 1) 1 rfl (by decide +kernel : decode code 795 = .ok (.aload_n 1, 1)) ?_
  refine r_callC h (as := []) (S := []) m_L_115 hC (by decide) (Nat.le_refl _) rfl rfl (Nat.le_of_ble_eq_true rfl) (by decide +kernel : decode code 796 = .ok (.invokevirtual 115, 3)) ?_
  rintro x9 M1 ⟨rfl, hA1⟩
  refine r_aloadn h (q := 2) 2 rfl (by decide +kernel : decode code 799 = .ok (.aload_n 2, 1)) ?_
  refine r_callM h (as := []) (S := [vi x9]) m_L_118 hD (fun _ _ _ => rfl) (by decide) (Nat.le_refl _) rfl rfl (Nat.le_of_ble_eq_true rfl) (by decide +kernel : decode code 800 = .ok (.invokevirtual 118, 3)) ?_
  rintro _ N1 ⟨rfl, hA2⟩
  refine r_icmp_same h 1208 (by decide) (by decide +kernel : decode code 803 = .ok (.if_icmp .eq 405, 3)) ?_
  obtain ⟨t9, tb9, hS9⟩ := hF M1 N1 hA1 hA2
  exact hJ g M1 N1 o t9 tb9 (by omega) hS9
set_option maxHeartbeats 4000000 in
set_option maxRecDepth 100000 in
theorem lc_see {b Ls : Nat} {xs : Nat → Int32} {Kf : Nat → Nat → Rr → Nat → List (Nat × AV) → List AV → Mm → Prop} (hW : LW b Ls xs Kf) (hLs : Ls ≤ 3584) {g k : Nat} (hgk : g ≤ k) (hk : 7 * k + 7 ≤ Ls) {t : TT} {tb : Nat} {M N : Mm} {o : Nat → Int} (hS : Sim t tb k M N) (hJ : JN Kf k) : Kf g 246 RRL 808 (LL k) [] (ML M N o) := by
  have hg : g ≤ 600 := by omega
  have h := hW.ek hg
  obtain ⟨r9, A9, A9', hC, hD, hF⟩ : Op (S_Main_see ((xs (7 * k + 1)).toInt) ((xs (7 * k + 2)).toInt)) (S_Mod_see ((xs (7 * k + 1)).toInt) ((xs (7 * k + 2)).toInt)) k M N := op_see (rng_toInt _) (rng_toInt _) hS
  refine r_aloadn h (q := 1) 1 rfl (by decide +kernel : decode code 808 = .ok (.aload_n 1, 1)) ?_
  refine r_aloadEn h (q := 0) 0 rfl (by decide +kernel : decode code 809 = .ok (.aload_n 0, 1)) ?_
  refine r_iload h 4 rfl (by decide +kernel : decode code 810 = .ok (.iload 4, 2)) ?_
  refine r_iconst h (v := 1) (by decide +kernel : decode code 812 = .ok (.iconst 1, 1)) ?_
  refine r_iadd h (by decide +kernel : decode code 813 = .ok (.iadd, 1)) ?_
  refine r_sld hW hg (7 * k + 1) (by omega) (by omega) (by omega) (by decide +kernel : decode code 814 = .ok (.iaload, 1)) ?_
  refine r_aloadEn h (q := 0) 0 rfl (by decide +kernel : decode code 815 = .ok (.aload_n 0, 1)) ?_
  refine r_iload h 4 rfl (by decide +kernel : decode code 816 = .ok (.iload 4, 2)) ?_
  refine r_iconst h (v := 2) (by decide +kernel : decode code 818 = .ok (.iconst 2, 1)) ?_
  refine r_iadd h (by decide +kernel : decode code 819 = .ok (.iadd, 1)) ?_
  refine r_sld hW hg (7 * k + 2) (by omega) (by omega) (by omega) (by decide +kernel : decode code 820 = .ok (.iaload, 1)) ?_
  refine r_callC h (as := [vi (xs (7 * k + 1)).toInt, vi (xs (7 * k + 2)).toInt]) (S := []) m_L_119 hC (by decide) (Nat.le_refl _) rfl rfl (Nat.le_of_ble_eq_true rfl) (by decide +kernel : decode code 821 = .ok (.invokevirtual 119, 3)) ?_
  rintro x9 M1 ⟨rfl, hA1⟩
  refine r_aloadn h (q := 2) 2 rfl (by decide +kernel : decode code 824 = .ok (.aload_n 2, 1)) ?_
  refine r_aloadEn h (q := 0) 0 rfl (by decide +kernel : decode code 825 = .ok (.aload_n 0, 1)) ?_
  refine r_iload h 4 rfl (by decide +kernel : decode code 826 = .ok (.iload 4, 2)) ?_
  refine r_iconst h (v := 1) (by decide +kernel : decode code 828 = .ok (.iconst 1, 1)) ?_
  refine r_iadd h (by decide +kernel : decode code 829 = .ok (.iadd, 1)) ?_
  refine r_sld hW hg (7 * k + 1) (by omega) (by omega) (by omega) (by decide +kernel : decode code 830 = .ok (.iaload, 1)) ?_
  refine r_aloadEn h (q := 0) 0 rfl (by decide +kernel : decode code 831 = .ok (.aload_n 0, 1)) ?_
  refine r_iload h 4 rfl (by decide +kernel : decode code 832 = .ok (.iload 4, 2)) ?_
  refine r_iconst h (v := 2) (by decide +kernel : decode code 834 = .ok (.iconst 2, 1)) ?_
  refine r_iadd h (by decide +kernel : decode code 835 = .ok (.iadd, 1)) ?_
  refine r_sld hW hg (7 * k + 2) (by omega) (by omega) (by omega) (by decide +kernel : decode code 836 = .ok (.iaload, 1)) ?_
  refine r_callM h (as := [vi (xs (7 * k + 1)).toInt, vi (xs (7 * k + 2)).toInt]) (S := [vi x9]) m_L_122 hD (fun _ _ _ => rfl) (by decide) (Nat.le_refl _) rfl rfl (Nat.le_of_ble_eq_true rfl) (by decide +kernel : decode code 837 = .ok (.invokevirtual 122, 3)) ?_
  rintro _ N1 ⟨rfl, hA2⟩
  refine r_icmp_same h 1208 (by decide) (by decide +kernel : decode code 840 = .ok (.if_icmp .eq 368, 3)) ?_
  obtain ⟨t9, tb9, hS9⟩ := hF M1 N1 hA1 hA2
  exact hJ g M1 N1 o t9 tb9 (by omega) hS9
set_option maxHeartbeats 4000000 in
set_option maxRecDepth 100000 in
theorem lc_orders {b Ls : Nat} {xs : Nat → Int32} {Kf : Nat → Nat → Rr → Nat → List (Nat × AV) → List AV → Mm → Prop} (hW : LW b Ls xs Kf) (hLs : Ls ≤ 3584) {g k : Nat} (hgk : g ≤ k) (hk : 7 * k + 7 ≤ Ls) {t : TT} {tb : Nat} {M N : Mm} {o : Nat → Int} (hS : Sim t tb k M N) (hJ : JN Kf k) : Kf g 246 RRL 845 (LL k) [] (ML M N o) := by
  have hg : g ≤ 600 := by omega
  have h := hW.ek hg
  obtain ⟨r9, A9, A9', hC, hD, hF⟩ : Op (S_Main_orders) (S_Mod_orders) k M N := op_orders hS
  refine r_aloadn h (q := 1) 1 rfl (by decide +kernel : decode code 845 = .ok (.aload_n 1, 1)) ?_
  refine r_callC h (as := []) (S := []) m_L_123 hC (by decide) (Nat.le_refl _) rfl rfl (Nat.le_of_ble_eq_true rfl) (by decide +kernel : decode code 846 = .ok (.invokevirtual 123, 3)) ?_
  rintro x9 M1 ⟨rfl, hA1⟩
  refine r_aloadn h (q := 2) 2 rfl (by decide +kernel : decode code 849 = .ok (.aload_n 2, 1)) ?_
  refine r_callM h (as := []) (S := [vi x9]) m_L_126 hD (fun _ _ _ => rfl) (by decide) (Nat.le_refl _) rfl rfl (Nat.le_of_ble_eq_true rfl) (by decide +kernel : decode code 850 = .ok (.invokevirtual 126, 3)) ?_
  rintro _ N1 ⟨rfl, hA2⟩
  refine r_icmp_same h 1208 (by decide) (by decide +kernel : decode code 853 = .ok (.if_icmp .eq 355, 3)) ?_
  obtain ⟨t9, tb9, hS9⟩ := hF M1 N1 hA1 hA2
  exact hJ g M1 N1 o t9 tb9 (by omega) hS9
set_option maxHeartbeats 4000000 in
set_option maxRecDepth 100000 in
theorem lc_first {b Ls : Nat} {xs : Nat → Int32} {Kf : Nat → Nat → Rr → Nat → List (Nat × AV) → List AV → Mm → Prop} (hW : LW b Ls xs Kf) (hLs : Ls ≤ 3584) {g k : Nat} (hgk : g ≤ k) (hk : 7 * k + 7 ≤ Ls) {t : TT} {tb : Nat} {M N : Mm} {o : Nat → Int} (hS : Sim t tb k M N) (hJ : JN Kf k) : Kf g 246 RRL 858 (LL k) [] (ML M N o) := by
  have hg : g ≤ 600 := by omega
  have h := hW.ek hg
  obtain ⟨r9, A9, A9', hC, hD, hF⟩ : Op (S_Main_first ((xs (7 * k + 1)).toInt)) (S_Mod_first ((xs (7 * k + 1)).toInt)) k M N := op_first (rng_toInt _) hS
  refine r_aloadn h (q := 1) 1 rfl (by decide +kernel : decode code 858 = .ok (.aload_n 1, 1)) ?_
  refine r_aloadEn h (q := 0) 0 rfl (by decide +kernel : decode code 859 = .ok (.aload_n 0, 1)) ?_
  refine r_iload h 4 rfl (by decide +kernel : decode code 860 = .ok (.iload 4, 2)) ?_
  refine r_iconst h (v := 1) (by decide +kernel : decode code 862 = .ok (.iconst 1, 1)) ?_
  refine r_iadd h (by decide +kernel : decode code 863 = .ok (.iadd, 1)) ?_
  refine r_sld hW hg (7 * k + 1) (by omega) (by omega) (by omega) (by decide +kernel : decode code 864 = .ok (.iaload, 1)) ?_
  refine r_callC h (as := [vi (xs (7 * k + 1)).toInt]) (S := []) m_L_127 hC (by decide) (Nat.le_refl _) rfl rfl (Nat.le_of_ble_eq_true rfl) (by decide +kernel : decode code 865 = .ok (.invokevirtual 127, 3)) ?_
  rintro x9 M1 ⟨rfl, hA1⟩
  refine r_aloadn h (q := 2) 2 rfl (by decide +kernel : decode code 868 = .ok (.aload_n 2, 1)) ?_
  refine r_aloadEn h (q := 0) 0 rfl (by decide +kernel : decode code 869 = .ok (.aload_n 0, 1)) ?_
  refine r_iload h 4 rfl (by decide +kernel : decode code 870 = .ok (.iload 4, 2)) ?_
  refine r_iconst h (v := 1) (by decide +kernel : decode code 872 = .ok (.iconst 1, 1)) ?_
  refine r_iadd h (by decide +kernel : decode code 873 = .ok (.iadd, 1)) ?_
  refine r_sld hW hg (7 * k + 1) (by omega) (by omega) (by omega) (by decide +kernel : decode code 874 = .ok (.iaload, 1)) ?_
  refine r_callM h (as := [vi (xs (7 * k + 1)).toInt]) (S := [vi x9]) m_L_130 hD (fun _ _ _ => rfl) (by decide) (Nat.le_refl _) rfl rfl (Nat.le_of_ble_eq_true rfl) (by decide +kernel : decode code 875 = .ok (.invokevirtual 130, 3)) ?_
  rintro _ N1 ⟨rfl, hA2⟩
  refine r_icmp_same h 1208 (by decide) (by decide +kernel : decode code 878 = .ok (.if_icmp .eq 330, 3)) ?_
  obtain ⟨t9, tb9, hS9⟩ := hF M1 N1 hA1 hA2
  exact hJ g M1 N1 o t9 tb9 (by omega) hS9
set_option maxHeartbeats 4000000 in
set_option maxRecDepth 100000 in
theorem lc_ask {b Ls : Nat} {xs : Nat → Int32} {Kf : Nat → Nat → Rr → Nat → List (Nat × AV) → List AV → Mm → Prop} (hW : LW b Ls xs Kf) (hLs : Ls ≤ 3584) {g k : Nat} (hgk : g ≤ k) (hk : 7 * k + 7 ≤ Ls) {t : TT} {tb : Nat} {M N : Mm} {o : Nat → Int} (hS : Sim t tb k M N) (hJ : JN Kf k) : Kf g 246 RRL 883 (LL k) [] (ML M N o) := by
  have hg : g ≤ 600 := by omega
  have h := hW.ek hg
  obtain ⟨r9, A9, A9', hC, hD, hF⟩ : Op (S_Main_ask) (S_Mod_ask) k M N := op_ask hS
  refine r_aloadn h (q := 1) 1 rfl (by decide +kernel : decode code 883 = .ok (.aload_n 1, 1)) ?_
  refine r_callC h (as := []) (S := []) m_L_131 hC (by decide) (Nat.le_refl _) rfl rfl (Nat.le_of_ble_eq_true rfl) (by decide +kernel : decode code 884 = .ok (.invokevirtual 131, 3)) ?_
  rintro x9 M1 ⟨rfl, hA1⟩
  refine r_aloadn h (q := 2) 2 rfl (by decide +kernel : decode code 887 = .ok (.aload_n 2, 1)) ?_
  refine r_callM h (as := []) (S := [vi x9]) m_L_134 hD (fun _ _ _ => rfl) (by decide) (Nat.le_refl _) rfl rfl (Nat.le_of_ble_eq_true rfl) (by decide +kernel : decode code 888 = .ok (.invokevirtual 134, 3)) ?_
  rintro _ N1 ⟨rfl, hA2⟩
  refine r_icmp_same h 1208 (by decide) (by decide +kernel : decode code 891 = .ok (.if_icmp .eq 317, 3)) ?_
  obtain ⟨t9, tb9, hS9⟩ := hF M1 N1 hA1 hA2
  exact hJ g M1 N1 o t9 tb9 (by omega) hS9
set_option maxHeartbeats 4000000 in
set_option maxRecDepth 100000 in
theorem lc_share {b Ls : Nat} {xs : Nat → Int32} {Kf : Nat → Nat → Rr → Nat → List (Nat × AV) → List AV → Mm → Prop} (hW : LW b Ls xs Kf) (hLs : Ls ≤ 3584) {g k : Nat} (hgk : g ≤ k) (hk : 7 * k + 7 ≤ Ls) {t : TT} {tb : Nat} {M N : Mm} {o : Nat → Int} (hS : Sim t tb k M N) (hJ : JN Kf k) : Kf g 246 RRL 896 (LL k) [] (ML M N o) := by
  have hg : g ≤ 600 := by omega
  have h := hW.ek hg
  obtain ⟨r9, A9, A9', hC, hD, hF⟩ : Op (S_Main_share ((xs (7 * k + 1)).toInt)) (S_Mod_share ((xs (7 * k + 1)).toInt)) k M N := op_share (rng_toInt _) hS
  refine r_aloadn h (q := 1) 1 rfl (by decide +kernel : decode code 896 = .ok (.aload_n 1, 1)) ?_
  refine r_aloadEn h (q := 0) 0 rfl (by decide +kernel : decode code 897 = .ok (.aload_n 0, 1)) ?_
  refine r_iload h 4 rfl (by decide +kernel : decode code 898 = .ok (.iload 4, 2)) ?_
  refine r_iconst h (v := 1) (by decide +kernel : decode code 900 = .ok (.iconst 1, 1)) ?_
  refine r_iadd h (by decide +kernel : decode code 901 = .ok (.iadd, 1)) ?_
  refine r_sld hW hg (7 * k + 1) (by omega) (by omega) (by omega) (by decide +kernel : decode code 902 = .ok (.iaload, 1)) ?_
  refine r_callC h (as := [vi (xs (7 * k + 1)).toInt]) (S := []) m_L_135 hC (by decide) (Nat.le_refl _) rfl rfl (Nat.le_of_ble_eq_true rfl) (by decide +kernel : decode code 903 = .ok (.invokevirtual 135, 3)) ?_
  rintro x9 M1 ⟨rfl, hA1⟩
  refine r_aloadn h (q := 2) 2 rfl (by decide +kernel : decode code 906 = .ok (.aload_n 2, 1)) ?_
  refine r_aloadEn h (q := 0) 0 rfl (by decide +kernel : decode code 907 = .ok (.aload_n 0, 1)) ?_
  refine r_iload h 4 rfl (by decide +kernel : decode code 908 = .ok (.iload 4, 2)) ?_
  refine r_iconst h (v := 1) (by decide +kernel : decode code 910 = .ok (.iconst 1, 1)) ?_
  refine r_iadd h (by decide +kernel : decode code 911 = .ok (.iadd, 1)) ?_
  refine r_sld hW hg (7 * k + 1) (by omega) (by omega) (by omega) (by decide +kernel : decode code 912 = .ok (.iaload, 1)) ?_
  refine r_callM h (as := [vi (xs (7 * k + 1)).toInt]) (S := [vi x9]) m_L_138 hD (fun _ _ _ => rfl) (by decide) (Nat.le_refl _) rfl rfl (Nat.le_of_ble_eq_true rfl) (by decide +kernel : decode code 913 = .ok (.invokevirtual 138, 3)) ?_
  rintro _ N1 ⟨rfl, hA2⟩
  refine r_icmp_same h 1208 (by decide) (by decide +kernel : decode code 916 = .ok (.if_icmp .eq 292, 3)) ?_
  obtain ⟨t9, tb9, hS9⟩ := hF M1 N1 hA1 hA2
  exact hJ g M1 N1 o t9 tb9 (by omega) hS9
set_option maxHeartbeats 4000000 in
set_option maxRecDepth 100000 in
theorem lc_decades {b Ls : Nat} {xs : Nat → Int32} {Kf : Nat → Nat → Rr → Nat → List (Nat × AV) → List AV → Mm → Prop} (hW : LW b Ls xs Kf) (hLs : Ls ≤ 3584) {g k : Nat} (hgk : g ≤ k) (hk : 7 * k + 7 ≤ Ls) {t : TT} {tb : Nat} {M N : Mm} {o : Nat → Int} (hS : Sim t tb k M N) (hJ : JN Kf k) : Kf g 246 RRL 1081 (LL k) [] (ML M N o) := by
  have hg : g ≤ 600 := by omega
  have h := hW.ek hg
  obtain ⟨r9, A9, A9', hC, hD, hF⟩ : Op (S_Main_decades ((xs (7 * k + 1)).toInt) ((xs (7 * k + 2)).toInt) ((xs (7 * k + 3)).toInt)) (S_Mod_decades ((xs (7 * k + 1)).toInt) ((xs (7 * k + 2)).toInt) ((xs (7 * k + 3)).toInt)) k M N := op_decades (rng_toInt _) (rng_toInt _) (rng_toInt _) (by omega) hS
  refine r_aloadn h (q := 1) 1 rfl (by decide +kernel : decode code 1081 = .ok (.aload_n 1, 1)) ?_
  refine r_aloadEn h (q := 0) 0 rfl (by decide +kernel : decode code 1082 = .ok (.aload_n 0, 1)) ?_
  refine r_iload h 4 rfl (by decide +kernel : decode code 1083 = .ok (.iload 4, 2)) ?_
  refine r_iconst h (v := 1) (by decide +kernel : decode code 1085 = .ok (.iconst 1, 1)) ?_
  refine r_iadd h (by decide +kernel : decode code 1086 = .ok (.iadd, 1)) ?_
  refine r_sld hW hg (7 * k + 1) (by omega) (by omega) (by omega) (by decide +kernel : decode code 1087 = .ok (.iaload, 1)) ?_
  refine r_aloadEn h (q := 0) 0 rfl (by decide +kernel : decode code 1088 = .ok (.aload_n 0, 1)) ?_
  refine r_iload h 4 rfl (by decide +kernel : decode code 1089 = .ok (.iload 4, 2)) ?_
  refine r_iconst h (v := 2) (by decide +kernel : decode code 1091 = .ok (.iconst 2, 1)) ?_
  refine r_iadd h (by decide +kernel : decode code 1092 = .ok (.iadd, 1)) ?_
  refine r_sld hW hg (7 * k + 2) (by omega) (by omega) (by omega) (by decide +kernel : decode code 1093 = .ok (.iaload, 1)) ?_
  refine r_aloadEn h (q := 0) 0 rfl (by decide +kernel : decode code 1094 = .ok (.aload_n 0, 1)) ?_
  refine r_iload h 4 rfl (by decide +kernel : decode code 1095 = .ok (.iload 4, 2)) ?_
  refine r_iconst h (v := 3) (by decide +kernel : decode code 1097 = .ok (.iconst 3, 1)) ?_
  refine r_iadd h (by decide +kernel : decode code 1098 = .ok (.iadd, 1)) ?_
  refine r_sld hW hg (7 * k + 3) (by omega) (by omega) (by omega) (by decide +kernel : decode code 1099 = .ok (.iaload, 1)) ?_
  refine r_callC h (as := [vi (xs (7 * k + 1)).toInt, vi (xs (7 * k + 2)).toInt, vi (xs (7 * k + 3)).toInt]) (S := []) m_L_151 hC (by decide) (Nat.le_refl _) rfl rfl (Nat.le_of_ble_eq_true rfl) (by decide +kernel : decode code 1100 = .ok (.invokevirtual 151, 3)) ?_
  rintro x9 M1 ⟨rfl, hA1⟩
  refine r_aloadn h (q := 2) 2 rfl (by decide +kernel : decode code 1103 = .ok (.aload_n 2, 1)) ?_
  refine r_aloadEn h (q := 0) 0 rfl (by decide +kernel : decode code 1104 = .ok (.aload_n 0, 1)) ?_
  refine r_iload h 4 rfl (by decide +kernel : decode code 1105 = .ok (.iload 4, 2)) ?_
  refine r_iconst h (v := 1) (by decide +kernel : decode code 1107 = .ok (.iconst 1, 1)) ?_
  refine r_iadd h (by decide +kernel : decode code 1108 = .ok (.iadd, 1)) ?_
  refine r_sld hW hg (7 * k + 1) (by omega) (by omega) (by omega) (by decide +kernel : decode code 1109 = .ok (.iaload, 1)) ?_
  refine r_aloadEn h (q := 0) 0 rfl (by decide +kernel : decode code 1110 = .ok (.aload_n 0, 1)) ?_
  refine r_iload h 4 rfl (by decide +kernel : decode code 1111 = .ok (.iload 4, 2)) ?_
  refine r_iconst h (v := 2) (by decide +kernel : decode code 1113 = .ok (.iconst 2, 1)) ?_
  refine r_iadd h (by decide +kernel : decode code 1114 = .ok (.iadd, 1)) ?_
  refine r_sld hW hg (7 * k + 2) (by omega) (by omega) (by omega) (by decide +kernel : decode code 1115 = .ok (.iaload, 1)) ?_
  refine r_aloadEn h (q := 0) 0 rfl (by decide +kernel : decode code 1116 = .ok (.aload_n 0, 1)) ?_
  refine r_iload h 4 rfl (by decide +kernel : decode code 1117 = .ok (.iload 4, 2)) ?_
  refine r_iconst h (v := 3) (by decide +kernel : decode code 1119 = .ok (.iconst 3, 1)) ?_
  refine r_iadd h (by decide +kernel : decode code 1120 = .ok (.iadd, 1)) ?_
  refine r_sld hW hg (7 * k + 3) (by omega) (by omega) (by omega) (by decide +kernel : decode code 1121 = .ok (.iaload, 1)) ?_
  refine r_callM h (as := [vi (xs (7 * k + 1)).toInt, vi (xs (7 * k + 2)).toInt, vi (xs (7 * k + 3)).toInt]) (S := [vi x9]) m_L_154 hD (fun _ _ _ => rfl) (by decide) (Nat.le_refl _) rfl rfl (Nat.le_of_ble_eq_true rfl) (by decide +kernel : decode code 1122 = .ok (.invokevirtual 154, 3)) ?_
  rintro _ N1 ⟨rfl, hA2⟩
  refine r_icmp_same h 1208 (by decide) (by decide +kernel : decode code 1125 = .ok (.if_icmp .eq 83, 3)) ?_
  obtain ⟨t9, tb9, hS9⟩ := hF M1 N1 hA1 hA2
  exact hJ g M1 N1 o t9 tb9 (by omega) hS9
set_option maxHeartbeats 4000000 in
set_option maxRecDepth 100000 in
theorem lc_mark {b Ls : Nat} {xs : Nat → Int32} {Kf : Nat → Nat → Rr → Nat → List (Nat × AV) → List AV → Mm → Prop} (hW : LW b Ls xs Kf) (hLs : Ls ≤ 3584) {g k : Nat} (hgk : g ≤ k) (hk : 7 * k + 7 ≤ Ls) {t : TT} {tb : Nat} {M N : Mm} {o : Nat → Int} (hS : Sim t tb k M N) (hJ : JN Kf k) : Kf g 246 RRL 1130 (LL k) [] (ML M N o) := by
  have hg : g ≤ 600 := by omega
  have h := hW.ek hg
  by_cases e9 : (xs (7 * k + 2)).toInt = 0
  · obtain ⟨r9, A9, A9', hC, hD, hF⟩ : Op (S_Main_mark ((xs (7 * k + 1)).toInt) (0)) (S_Mod_mark ((xs (7 * k + 1)).toInt) (0)) k M N := op_mark (rng_toInt _) (by decide) hS
    refine r_aloadn h (q := 1) 1 rfl (by decide +kernel : decode code 1130 = .ok (.aload_n 1, 1)) ?_
    refine r_aloadEn h (q := 0) 0 rfl (by decide +kernel : decode code 1131 = .ok (.aload_n 0, 1)) ?_
    refine r_iload h 4 rfl (by decide +kernel : decode code 1132 = .ok (.iload 4, 2)) ?_
    refine r_iconst h (v := 1) (by decide +kernel : decode code 1134 = .ok (.iconst 1, 1)) ?_
    refine r_iadd h (by decide +kernel : decode code 1135 = .ok (.iadd, 1)) ?_
    refine r_sld hW hg (7 * k + 1) (by omega) (by omega) (by omega) (by decide +kernel : decode code 1136 = .ok (.iaload, 1)) ?_
    refine r_aloadEn h (q := 0) 0 rfl (by decide +kernel : decode code 1137 = .ok (.aload_n 0, 1)) ?_
    refine r_iload h 4 rfl (by decide +kernel : decode code 1138 = .ok (.iload 4, 2)) ?_
    refine r_iconst h (v := 2) (by decide +kernel : decode code 1140 = .ok (.iconst 2, 1)) ?_
    refine r_iadd h (by decide +kernel : decode code 1141 = .ok (.iadd, 1)) ?_
    refine r_sld hW hg (7 * k + 2) (by omega) (by omega) (by omega) (by decide +kernel : decode code 1142 = .ok (.iaload, 1)) ?_
    refine r_if_eq h 1150 (rng_toInt _) (by decide) (by decide +kernel : decode code 1143 = .ok (.ifCond .eq 7, 3)) (fun _ => ?_) (fun z => absurd e9 z)
    refine r_iconst h (v := 0) (by decide +kernel : decode code 1150 = .ok (.iconst 0, 1)) ?_
    refine r_callC h (as := [vi (xs (7 * k + 1)).toInt, vi 0]) (S := []) m_L_155 hC (by decide) (Nat.le_refl _) rfl rfl (Nat.le_of_ble_eq_true rfl) (by decide +kernel : decode code 1151 = .ok (.invokevirtual 155, 3)) ?_
    rintro x9 M1 ⟨rfl, hA1⟩
    refine r_aloadn h (q := 2) 2 rfl (by decide +kernel : decode code 1154 = .ok (.aload_n 2, 1)) ?_
    refine r_aloadEn h (q := 0) 0 rfl (by decide +kernel : decode code 1155 = .ok (.aload_n 0, 1)) ?_
    refine r_iload h 4 rfl (by decide +kernel : decode code 1156 = .ok (.iload 4, 2)) ?_
    refine r_iconst h (v := 1) (by decide +kernel : decode code 1158 = .ok (.iconst 1, 1)) ?_
    refine r_iadd h (by decide +kernel : decode code 1159 = .ok (.iadd, 1)) ?_
    refine r_sld hW hg (7 * k + 1) (by omega) (by omega) (by omega) (by decide +kernel : decode code 1160 = .ok (.iaload, 1)) ?_
    refine r_aloadEn h (q := 0) 0 rfl (by decide +kernel : decode code 1161 = .ok (.aload_n 0, 1)) ?_
    refine r_iload h 4 rfl (by decide +kernel : decode code 1162 = .ok (.iload 4, 2)) ?_
    refine r_iconst h (v := 2) (by decide +kernel : decode code 1164 = .ok (.iconst 2, 1)) ?_
    refine r_iadd h (by decide +kernel : decode code 1165 = .ok (.iadd, 1)) ?_
    refine r_sld hW hg (7 * k + 2) (by omega) (by omega) (by omega) (by decide +kernel : decode code 1166 = .ok (.iaload, 1)) ?_
    refine r_if_eq h 1174 (rng_toInt _) (by decide) (by decide +kernel : decode code 1167 = .ok (.ifCond .eq 7, 3)) (fun _ => ?_) (fun z => absurd e9 z)
    refine r_iconst h (v := 0) (by decide +kernel : decode code 1174 = .ok (.iconst 0, 1)) ?_
    refine r_callM h (as := [vi (xs (7 * k + 1)).toInt, vi 0]) (S := [vi x9]) m_L_159 hD (fun _ _ _ => rfl) (by decide) (Nat.le_refl _) rfl rfl (Nat.le_of_ble_eq_true rfl) (by decide +kernel : decode code 1175 = .ok (.invokevirtual 159, 3)) ?_
    rintro _ N1 ⟨rfl, hA2⟩
    refine r_icmp_same h 1208 (by decide) (by decide +kernel : decode code 1178 = .ok (.if_icmp .eq 30, 3)) ?_
    obtain ⟨t9, tb9, hS9⟩ := hF M1 N1 hA1 hA2
    exact hJ g M1 N1 o t9 tb9 (by omega) hS9
  · obtain ⟨r9, A9, A9', hC, hD, hF⟩ : Op (S_Main_mark ((xs (7 * k + 1)).toInt) (1)) (S_Mod_mark ((xs (7 * k + 1)).toInt) (1)) k M N := op_mark (rng_toInt _) (by decide) hS
    refine r_aloadn h (q := 1) 1 rfl (by decide +kernel : decode code 1130 = .ok (.aload_n 1, 1)) ?_
    refine r_aloadEn h (q := 0) 0 rfl (by decide +kernel : decode code 1131 = .ok (.aload_n 0, 1)) ?_
    refine r_iload h 4 rfl (by decide +kernel : decode code 1132 = .ok (.iload 4, 2)) ?_
    refine r_iconst h (v := 1) (by decide +kernel : decode code 1134 = .ok (.iconst 1, 1)) ?_
    refine r_iadd h (by decide +kernel : decode code 1135 = .ok (.iadd, 1)) ?_
    refine r_sld hW hg (7 * k + 1) (by omega) (by omega) (by omega) (by decide +kernel : decode code 1136 = .ok (.iaload, 1)) ?_
    refine r_aloadEn h (q := 0) 0 rfl (by decide +kernel : decode code 1137 = .ok (.aload_n 0, 1)) ?_
    refine r_iload h 4 rfl (by decide +kernel : decode code 1138 = .ok (.iload 4, 2)) ?_
    refine r_iconst h (v := 2) (by decide +kernel : decode code 1140 = .ok (.iconst 2, 1)) ?_
    refine r_iadd h (by decide +kernel : decode code 1141 = .ok (.iadd, 1)) ?_
    refine r_sld hW hg (7 * k + 2) (by omega) (by omega) (by omega) (by decide +kernel : decode code 1142 = .ok (.iaload, 1)) ?_
    refine r_if_eq h 1150 (rng_toInt _) (by decide) (by decide +kernel : decode code 1143 = .ok (.ifCond .eq 7, 3)) (fun z => absurd z e9) (fun _ => ?_)
    refine r_iconst h (v := 1) (by decide +kernel : decode code 1146 = .ok (.iconst 1, 1)) ?_
    refine r_goto h 1151 (by decide) (by decide +kernel : decode code 1147 = .ok (.goto 4, 3)) ?_
    refine r_callC h (as := [vi (xs (7 * k + 1)).toInt, vi 1]) (S := []) m_L_155 hC (by decide) (Nat.le_refl _) rfl rfl (Nat.le_of_ble_eq_true rfl) (by decide +kernel : decode code 1151 = .ok (.invokevirtual 155, 3)) ?_
    rintro x9 M1 ⟨rfl, hA1⟩
    refine r_aloadn h (q := 2) 2 rfl (by decide +kernel : decode code 1154 = .ok (.aload_n 2, 1)) ?_
    refine r_aloadEn h (q := 0) 0 rfl (by decide +kernel : decode code 1155 = .ok (.aload_n 0, 1)) ?_
    refine r_iload h 4 rfl (by decide +kernel : decode code 1156 = .ok (.iload 4, 2)) ?_
    refine r_iconst h (v := 1) (by decide +kernel : decode code 1158 = .ok (.iconst 1, 1)) ?_
    refine r_iadd h (by decide +kernel : decode code 1159 = .ok (.iadd, 1)) ?_
    refine r_sld hW hg (7 * k + 1) (by omega) (by omega) (by omega) (by decide +kernel : decode code 1160 = .ok (.iaload, 1)) ?_
    refine r_aloadEn h (q := 0) 0 rfl (by decide +kernel : decode code 1161 = .ok (.aload_n 0, 1)) ?_
    refine r_iload h 4 rfl (by decide +kernel : decode code 1162 = .ok (.iload 4, 2)) ?_
    refine r_iconst h (v := 2) (by decide +kernel : decode code 1164 = .ok (.iconst 2, 1)) ?_
    refine r_iadd h (by decide +kernel : decode code 1165 = .ok (.iadd, 1)) ?_
    refine r_sld hW hg (7 * k + 2) (by omega) (by omega) (by omega) (by decide +kernel : decode code 1166 = .ok (.iaload, 1)) ?_
    refine r_if_eq h 1174 (rng_toInt _) (by decide) (by decide +kernel : decode code 1167 = .ok (.ifCond .eq 7, 3)) (fun z => absurd z e9) (fun _ => ?_)
    refine r_iconst h (v := 1) (by decide +kernel : decode code 1170 = .ok (.iconst 1, 1)) ?_
    refine r_goto h 1175 (by decide) (by decide +kernel : decode code 1171 = .ok (.goto 4, 3)) ?_
    refine r_callM h (as := [vi (xs (7 * k + 1)).toInt, vi 1]) (S := [vi x9]) m_L_159 hD (fun _ _ _ => rfl) (by decide) (Nat.le_refl _) rfl rfl (Nat.le_of_ble_eq_true rfl) (by decide +kernel : decode code 1175 = .ok (.invokevirtual 159, 3)) ?_
    rintro _ N1 ⟨rfl, hA2⟩
    refine r_icmp_same h 1208 (by decide) (by decide +kernel : decode code 1178 = .ok (.if_icmp .eq 30, 3)) ?_
    obtain ⟨t9, tb9, hS9⟩ := hF M1 N1 hA1 hA2
    exact hJ g M1 N1 o t9 tb9 (by omega) hS9
set_option maxHeartbeats 4000000 in
set_option maxRecDepth 100000 in
theorem lc_count {b Ls : Nat} {xs : Nat → Int32} {Kf : Nat → Nat → Rr → Nat → List (Nat × AV) → List AV → Mm → Prop} (hW : LW b Ls xs Kf) (hLs : Ls ≤ 3584) {g k : Nat} (hgk : g ≤ k) (hk : 7 * k + 7 ≤ Ls) {t : TT} {tb : Nat} {M N : Mm} {o : Nat → Int} (hS : Sim t tb k M N) (hJ : JN Kf k) : Kf g 246 RRL 1183 (LL k) [] (ML M N o) := by
  have hg : g ≤ 600 := by omega
  have h := hW.ek hg
  obtain ⟨r9, A9, A9', hC, hD, hF⟩ : Op (S_Main_count ((xs (7 * k + 1)).toInt)) (S_Mod_count ((xs (7 * k + 1)).toInt)) k M N := op_count (rng_toInt _) (by omega) hS
  refine r_aloadn h (q := 1) 1 rfl (by decide +kernel : decode code 1183 = .ok (.aload_n 1, 1)) ?_
  refine r_aloadEn h (q := 0) 0 rfl (by decide +kernel : decode code 1184 = .ok (.aload_n 0, 1)) ?_
  refine r_iload h 4 rfl (by decide +kernel : decode code 1185 = .ok (.iload 4, 2)) ?_
  refine r_iconst h (v := 1) (by decide +kernel : decode code 1187 = .ok (.iconst 1, 1)) ?_
  refine r_iadd h (by decide +kernel : decode code 1188 = .ok (.iadd, 1)) ?_
  refine r_sld hW hg (7 * k + 1) (by omega) (by omega) (by omega) (by decide +kernel : decode code 1189 = .ok (.iaload, 1)) ?_
  refine r_callC h (as := [vi (xs (7 * k + 1)).toInt]) (S := []) m_L_160 hC (by decide) (Nat.le_refl _) rfl rfl (Nat.le_of_ble_eq_true rfl) (by decide +kernel : decode code 1190 = .ok (.invokevirtual 160, 3)) ?_
  rintro x9 M1 ⟨rfl, hA1⟩
  refine r_aloadn h (q := 2) 2 rfl (by decide +kernel : decode code 1193 = .ok (.aload_n 2, 1)) ?_
  refine r_aloadEn h (q := 0) 0 rfl (by decide +kernel : decode code 1194 = .ok (.aload_n 0, 1)) ?_
  refine r_iload h 4 rfl (by decide +kernel : decode code 1195 = .ok (.iload 4, 2)) ?_
  refine r_iconst h (v := 1) (by decide +kernel : decode code 1197 = .ok (.iconst 1, 1)) ?_
  refine r_iadd h (by decide +kernel : decode code 1198 = .ok (.iadd, 1)) ?_
  refine r_sld hW hg (7 * k + 1) (by omega) (by omega) (by omega) (by decide +kernel : decode code 1199 = .ok (.iaload, 1)) ?_
  refine r_callM h (as := [vi (xs (7 * k + 1)).toInt]) (S := [vi x9]) m_L_163 hD (fun _ _ _ => rfl) (by decide) (Nat.le_refl _) rfl rfl (Nat.le_of_ble_eq_true rfl) (by decide +kernel : decode code 1200 = .ok (.invokevirtual 163, 3)) ?_
  rintro _ N1 ⟨rfl, hA2⟩
  refine r_icmp_same h 1208 (by decide) (by decide +kernel : decode code 1203 = .ok (.if_icmp .eq 5, 3)) ?_
  obtain ⟨t9, tb9, hS9⟩ := hF M1 N1 hA1 hA2
  exact hJ g M1 N1 o t9 tb9 (by omega) hS9
