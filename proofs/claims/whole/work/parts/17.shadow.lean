theorem dX11_undo_0 : decode cX11_undo 0 = .ok (.aload_n 0, 1) := by decide +kernel
theorem dX11_undo_1 : decode cX11_undo 1 = .ok (.getfield 34, 3) := by decide +kernel
theorem dX11_undo_4 : decode cX11_undo 4 = .ok (.ifCond .gt 5, 3) := by decide +kernel
theorem dX11_undo_7 : decode cX11_undo 7 = .ok (.iconst (-1), 1) := by decide +kernel
theorem dX11_undo_8 : decode cX11_undo 8 = .ok (.ireturn, 1) := by decide +kernel
theorem dX11_undo_9 : decode cX11_undo 9 = .ok (.aload_n 0, 1) := by decide +kernel
theorem dX11_undo_10 : decode cX11_undo 10 = .ok (.dup, 1) := by decide +kernel
theorem dX11_undo_11 : decode cX11_undo 11 = .ok (.getfield 34, 3) := by decide +kernel
theorem dX11_undo_14 : decode cX11_undo 14 = .ok (.iconst 1, 1) := by decide +kernel
theorem dX11_undo_15 : decode cX11_undo 15 = .ok (.isub, 1) := by decide +kernel
theorem dX11_undo_16 : decode cX11_undo 16 = .ok (.putfield 34, 3) := by decide +kernel
theorem dX11_undo_19 : decode cX11_undo 19 = .ok (.aload_n 0, 1) := by decide +kernel
theorem dX11_undo_20 : decode cX11_undo 20 = .ok (.aload_n 0, 1) := by decide +kernel
theorem dX11_undo_21 : decode cX11_undo 21 = .ok (.getfield 30, 3) := by decide +kernel
theorem dX11_undo_24 : decode cX11_undo 24 = .ok (.aload_n 0, 1) := by decide +kernel
theorem dX11_undo_25 : decode cX11_undo 25 = .ok (.getfield 34, 3) := by decide +kernel
theorem dX11_undo_28 : decode cX11_undo 28 = .ok (.aaload, 1) := by decide +kernel
theorem dX11_undo_29 : decode cX11_undo 29 = .ok (.putfield 39, 3) := by decide +kernel
theorem dX11_undo_32 : decode cX11_undo 32 = .ok (.aload_n 0, 1) := by decide +kernel
theorem dX11_undo_33 : decode cX11_undo 33 = .ok (.getfield 34, 3) := by decide +kernel
theorem dX11_undo_36 : decode cX11_undo 36 = .ok (.ireturn, 1) := by decide +kernel
def f_X11_undo (N : Nat) (l0 : Nat) (h : zH) : Option (Int32 × zH) := (zgI h 11 (some l0) 4).bind fun x1 => if 0 < x1 then (zgI h 11 (some l0) 4).bind fun x2 => (zpu h 11 (some l0) 4 (zi (x2 - (1 : Int32)))).bind fun h1 => (zgR h1 11 (some l0) 3).bind fun x3 => (zgI h1 11 (some l0) 4).bind fun x4 => (zldR h1 5 x3 x4).bind fun x5 => (zpu h1 11 (some l0) 5 (zr x5)).bind fun h2 => (zgI h2 11 (some l0) 4).bind fun x6 => some (x6, h2) else some (((-1) : Int32), h)
set_option maxHeartbeats 4000000 in
set_option maxRecDepth 100000 in
theorem s_X11_undo {g : zG} (hg : g.2.1.map (fun q => q.2) = zty) {h0 : zH} (N : Nat) (l0 : Nat) (h : zH) (r : Int32) (h' : zH) (hf : f_X11_undo N l0 h = some (r, h')) : zR g jX11_undo h0 0 [some (zr (some l0))] [] h (some (zi r)) h' := by
  unfold f_X11_undo at hf
  refine zr_aload_n (v := .inl (some l0)) dX11_undo_0 rfl rfl ?_
  revert hf; refine zbi (fun x1 e_x1 hf => ?_)
  refine zq_getI kg_331 dX11_undo_1 e_x1 ?_
  by_cases hc1 : 0 < x1
  · rw [if_pos hc1] at hf
    refine zr_ifgt_t (tgt := 9) dX11_undo_4 (by decide) hc1 ?_
    refine zr_aload_n (v := .inl (some l0)) dX11_undo_9 rfl rfl ?_
    refine zr_dup dX11_undo_10 ?_
    revert hf; refine zbi (fun x2 e_x2 hf => ?_)
    refine zq_getI kg_331 dX11_undo_11 e_x2 ?_
    refine zr_iconst (v := (1 : Int32)) dX11_undo_14 (by decide) ?_
    refine zr_isub dX11_undo_15 ?_
    revert hf; refine zbi (fun h1 e_h1 hf => ?_)
    refine zq_put (kp_333 _) dX11_undo_16 (zn_i _) e_h1 ?_
    refine zr_aload_n (v := .inl (some l0)) dX11_undo_19 rfl rfl ?_
    refine zr_aload_n (v := .inl (some l0)) dX11_undo_20 rfl rfl ?_
    revert hf; refine zbi (fun x3 e_x3 hf => ?_)
    refine zq_getR kg_330 dX11_undo_21 e_x3 ?_
    refine zr_aload_n (v := .inl (some l0)) dX11_undo_24 rfl rfl ?_
    revert hf; refine zbi (fun x4 e_x4 hf => ?_)
    refine zq_getI kg_331 dX11_undo_25 e_x4 ?_
    revert hf; refine zbi (fun x5 e_x5 hf => ?_)
    refine zq_aald (t := 5) rfl dX11_undo_28 e_x5 ?_
    revert hf; refine zbi (fun h2 e_h2 hf => ?_)
    refine zq_put (kp_336 _) dX11_undo_29 (zn_o _ _) e_h2 ?_
    refine zr_aload_n (v := .inl (some l0)) dX11_undo_32 rfl rfl ?_
    revert hf; refine zbi (fun x6 e_x6 hf => ?_)
    refine zq_getI kg_331 dX11_undo_33 e_x6 ?_
    cases hf
    exact zr_ret _ rfl dX11_undo_36
  · rw [if_neg hc1] at hf
    refine zr_ifgt_f 9 dX11_undo_4 (by decide) hc1 ?_
    refine zr_iconst (v := ((-1) : Int32)) dX11_undo_7 (by decide) ?_
    cases hf
    exact zr_ret _ rfl dX11_undo_8
theorem c_X11_undo {g : zG} (hg : g.2.1.map (fun q => q.2) = zty) {N : Nat} {l0 : Nat} {h : zH} {r : Int32} {h' : zH} (hf : f_X11_undo N l0 h = some (r, h')) : zCa g jX11_undo [zr (some l0)] h (some (zi r)) h' :=
  zCa.of hg (by decide +kernel) (Nat.le_of_ble_eq_true rfl) (s_X11_undo hg N l0 h r h' hf)
theorem dX12_init_0 : decode cX12_init 0 = .ok (.aload_n 0, 1) := by decide +kernel
theorem dX12_init_1 : decode cX12_init 1 = .ok (.invokespecial 1, 3) := by decide +kernel
theorem dX12_init_4 : decode cX12_init 4 = .ok (.aload_n 0, 1) := by decide +kernel
theorem dX12_init_5 : decode cX12_init 5 = .ok (.ldc 7, 2) := by decide +kernel
theorem dX12_init_7 : decode cX12_init 7 = .ok (.newarray .int, 2) := by decide +kernel
theorem dX12_init_9 : decode cX12_init 9 = .ok (.putfield 8, 3) := by decide +kernel
theorem dX12_init_12 : decode cX12_init 12 = .ok (.aload_n 0, 1) := by decide +kernel
theorem dX12_init_13 : decode cX12_init 13 = .ok (.sipush 1000, 3) := by decide +kernel
theorem dX12_init_16 : decode cX12_init 16 = .ok (.newarray .int, 2) := by decide +kernel
theorem dX12_init_18 : decode cX12_init 18 = .ok (.putfield 14, 3) := by decide +kernel
theorem dX12_init_21 : decode cX12_init 21 = .ok (.aload_n 0, 1) := by decide +kernel
theorem dX12_init_22 : decode cX12_init 22 = .ok (.iconst (-1), 1) := by decide +kernel
theorem dX12_init_23 : decode cX12_init 23 = .ok (.putfield 17, 3) := by decide +kernel
theorem dX12_init_26 : decode cX12_init 26 = .ok (.aload_n 0, 1) := by decide +kernel
theorem dX12_init_27 : decode cX12_init 27 = .ok (.iconst 4, 1) := by decide +kernel
theorem dX12_init_28 : decode cX12_init 28 = .ok (.newarray .char, 2) := by decide +kernel
theorem dX12_init_30 : decode cX12_init 30 = .ok (.dup, 1) := by decide +kernel
theorem dX12_init_31 : decode cX12_init 31 = .ok (.iconst 0, 1) := by decide +kernel
theorem dX12_init_32 : decode cX12_init 32 = .ok (.bipush 102, 2) := by decide +kernel
theorem dX12_init_34 : decode cX12_init 34 = .ok (.castore, 1) := by decide +kernel
theorem dX12_init_35 : decode cX12_init 35 = .ok (.dup, 1) := by decide +kernel
theorem dX12_init_36 : decode cX12_init 36 = .ok (.iconst 1, 1) := by decide +kernel
theorem dX12_init_37 : decode cX12_init 37 = .ok (.bipush 97, 2) := by decide +kernel
theorem dX12_init_39 : decode cX12_init 39 = .ok (.castore, 1) := by decide +kernel
theorem dX12_init_40 : decode cX12_init 40 = .ok (.dup, 1) := by decide +kernel
theorem dX12_init_41 : decode cX12_init 41 = .ok (.iconst 2, 1) := by decide +kernel
theorem dX12_init_42 : decode cX12_init 42 = .ok (.bipush 99, 2) := by decide +kernel
theorem dX12_init_44 : decode cX12_init 44 = .ok (.castore, 1) := by decide +kernel
theorem dX12_init_45 : decode cX12_init 45 = .ok (.dup, 1) := by decide +kernel
theorem dX12_init_46 : decode cX12_init 46 = .ok (.iconst 3, 1) := by decide +kernel
theorem dX12_init_47 : decode cX12_init 47 = .ok (.bipush 101, 2) := by decide +kernel
theorem dX12_init_49 : decode cX12_init 49 = .ok (.castore, 1) := by decide +kernel
theorem dX12_init_50 : decode cX12_init 50 = .ok (.putfield 21, 3) := by decide +kernel
theorem dX12_init_53 : decode cX12_init 53 = .ok (.aload_n 0, 1) := by decide +kernel
theorem dX12_init_54 : decode cX12_init 54 = .ok (.iconst 3, 1) := by decide +kernel
theorem dX12_init_55 : decode cX12_init 55 = .ok (.newarray .char, 2) := by decide +kernel
theorem dX12_init_57 : decode cX12_init 57 = .ok (.dup, 1) := by decide +kernel
theorem dX12_init_58 : decode cX12_init 58 = .ok (.iconst 0, 1) := by decide +kernel
theorem dX12_init_59 : decode cX12_init 59 = .ok (.bipush 108, 2) := by decide +kernel
theorem dX12_init_61 : decode cX12_init 61 = .ok (.castore, 1) := by decide +kernel
theorem dX12_init_62 : decode cX12_init 62 = .ok (.dup, 1) := by decide +kernel
theorem dX12_init_63 : decode cX12_init 63 = .ok (.iconst 1, 1) := by decide +kernel
theorem dX12_init_64 : decode cX12_init 64 = .ok (.bipush 101, 2) := by decide +kernel
theorem dX12_init_66 : decode cX12_init 66 = .ok (.castore, 1) := by decide +kernel
theorem dX12_init_67 : decode cX12_init 67 = .ok (.dup, 1) := by decide +kernel
theorem dX12_init_68 : decode cX12_init 68 = .ok (.iconst 2, 1) := by decide +kernel
theorem dX12_init_69 : decode cX12_init 69 = .ok (.bipush 103, 2) := by decide +kernel
theorem dX12_init_71 : decode cX12_init 71 = .ok (.castore, 1) := by decide +kernel
theorem dX12_init_72 : decode cX12_init 72 = .ok (.putfield 25, 3) := by decide +kernel
theorem dX12_init_75 : decode cX12_init 75 = .ok (.aload_n 0, 1) := by decide +kernel
theorem dX12_init_76 : decode cX12_init 76 = .ok (.iconst 4, 1) := by decide +kernel
theorem dX12_init_77 : decode cX12_init 77 = .ok (.newarray .char, 2) := by decide +kernel
theorem dX12_init_79 : decode cX12_init 79 = .ok (.dup, 1) := by decide +kernel
theorem dX12_init_80 : decode cX12_init 80 = .ok (.iconst 0, 1) := by decide +kernel
theorem dX12_init_81 : decode cX12_init 81 = .ok (.bipush 109, 2) := by decide +kernel
theorem dX12_init_83 : decode cX12_init 83 = .ok (.castore, 1) := by decide +kernel
theorem dX12_init_84 : decode cX12_init 84 = .ok (.dup, 1) := by decide +kernel
theorem dX12_init_85 : decode cX12_init 85 = .ok (.iconst 1, 1) := by decide +kernel
theorem dX12_init_86 : decode cX12_init 86 = .ok (.bipush 111, 2) := by decide +kernel
theorem dX12_init_88 : decode cX12_init 88 = .ok (.castore, 1) := by decide +kernel
theorem dX12_init_89 : decode cX12_init 89 = .ok (.dup, 1) := by decide +kernel
theorem dX12_init_90 : decode cX12_init 90 = .ok (.iconst 2, 1) := by decide +kernel
theorem dX12_init_91 : decode cX12_init 91 = .ok (.bipush 115, 2) := by decide +kernel
theorem dX12_init_93 : decode cX12_init 93 = .ok (.castore, 1) := by decide +kernel
theorem dX12_init_94 : decode cX12_init 94 = .ok (.dup, 1) := by decide +kernel
theorem dX12_init_95 : decode cX12_init 95 = .ok (.iconst 3, 1) := by decide +kernel
theorem dX12_init_96 : decode cX12_init 96 = .ok (.bipush 116, 2) := by decide +kernel
theorem dX12_init_98 : decode cX12_init 98 = .ok (.castore, 1) := by decide +kernel
theorem dX12_init_99 : decode cX12_init 99 = .ok (.putfield 28, 3) := by decide +kernel
theorem dX12_init_102 : decode cX12_init 102 = .ok (.aload_n 0, 1) := by decide +kernel
theorem dX12_init_103 : decode cX12_init 103 = .ok (.iconst 4, 1) := by decide +kernel
theorem dX12_init_104 : decode cX12_init 104 = .ok (.newarray .char, 2) := by decide +kernel
theorem dX12_init_106 : decode cX12_init 106 = .ok (.dup, 1) := by decide +kernel
theorem dX12_init_107 : decode cX12_init 107 = .ok (.iconst 0, 1) := by decide +kernel
theorem dX12_init_108 : decode cX12_init 108 = .ok (.bipush 108, 2) := by decide +kernel
theorem dX12_init_110 : decode cX12_init 110 = .ok (.castore, 1) := by decide +kernel
theorem dX12_init_111 : decode cX12_init 111 = .ok (.dup, 1) := by decide +kernel
theorem dX12_init_112 : decode cX12_init 112 = .ok (.iconst 1, 1) := by decide +kernel
theorem dX12_init_113 : decode cX12_init 113 = .ok (.bipush 97, 2) := by decide +kernel
theorem dX12_init_115 : decode cX12_init 115 = .ok (.castore, 1) := by decide +kernel
theorem dX12_init_116 : decode cX12_init 116 = .ok (.dup, 1) := by decide +kernel
theorem dX12_init_117 : decode cX12_init 117 = .ok (.iconst 2, 1) := by decide +kernel
theorem dX12_init_118 : decode cX12_init 118 = .ok (.bipush 115, 2) := by decide +kernel
theorem dX12_init_120 : decode cX12_init 120 = .ok (.castore, 1) := by decide +kernel
theorem dX12_init_121 : decode cX12_init 121 = .ok (.dup, 1) := by decide +kernel
theorem dX12_init_122 : decode cX12_init 122 = .ok (.iconst 3, 1) := by decide +kernel
theorem dX12_init_123 : decode cX12_init 123 = .ok (.bipush 116, 2) := by decide +kernel
theorem dX12_init_125 : decode cX12_init 125 = .ok (.castore, 1) := by decide +kernel
theorem dX12_init_126 : decode cX12_init 126 = .ok (.putfield 31, 3) := by decide +kernel
theorem dX12_init_129 : decode cX12_init 129 = .ok (.aload_n 0, 1) := by decide +kernel
theorem dX12_init_130 : decode cX12_init 130 = .ok (.bipush 7, 2) := by decide +kernel
theorem dX12_init_132 : decode cX12_init 132 = .ok (.newarray .char, 2) := by decide +kernel
theorem dX12_init_134 : decode cX12_init 134 = .ok (.dup, 1) := by decide +kernel
theorem dX12_init_135 : decode cX12_init 135 = .ok (.iconst 0, 1) := by decide +kernel
theorem dX12_init_136 : decode cX12_init 136 = .ok (.bipush 110, 2) := by decide +kernel
theorem dX12_init_138 : decode cX12_init 138 = .ok (.castore, 1) := by decide +kernel
theorem dX12_init_139 : decode cX12_init 139 = .ok (.dup, 1) := by decide +kernel
theorem dX12_init_140 : decode cX12_init 140 = .ok (.iconst 1, 1) := by decide +kernel
theorem dX12_init_141 : decode cX12_init 141 = .ok (.bipush 101, 2) := by decide +kernel
theorem dX12_init_143 : decode cX12_init 143 = .ok (.castore, 1) := by decide +kernel
theorem dX12_init_144 : decode cX12_init 144 = .ok (.dup, 1) := by decide +kernel
theorem dX12_init_145 : decode cX12_init 145 = .ok (.iconst 2, 1) := by decide +kernel
theorem dX12_init_146 : decode cX12_init 146 = .ok (.bipush 97, 2) := by decide +kernel
theorem dX12_init_148 : decode cX12_init 148 = .ok (.castore, 1) := by decide +kernel
theorem dX12_init_149 : decode cX12_init 149 = .ok (.dup, 1) := by decide +kernel
theorem dX12_init_150 : decode cX12_init 150 = .ok (.iconst 3, 1) := by decide +kernel
theorem dX12_init_151 : decode cX12_init 151 = .ok (.bipush 114, 2) := by decide +kernel
theorem dX12_init_153 : decode cX12_init 153 = .ok (.castore, 1) := by decide +kernel
theorem dX12_init_154 : decode cX12_init 154 = .ok (.dup, 1) := by decide +kernel
theorem dX12_init_155 : decode cX12_init 155 = .ok (.iconst 4, 1) := by decide +kernel
theorem dX12_init_156 : decode cX12_init 156 = .ok (.bipush 101, 2) := by decide +kernel
theorem dX12_init_158 : decode cX12_init 158 = .ok (.castore, 1) := by decide +kernel
theorem dX12_init_159 : decode cX12_init 159 = .ok (.dup, 1) := by decide +kernel
theorem dX12_init_160 : decode cX12_init 160 = .ok (.iconst 5, 1) := by decide +kernel
theorem dX12_init_161 : decode cX12_init 161 = .ok (.bipush 115, 2) := by decide +kernel
theorem dX12_init_163 : decode cX12_init 163 = .ok (.castore, 1) := by decide +kernel
theorem dX12_init_164 : decode cX12_init 164 = .ok (.dup, 1) := by decide +kernel
theorem dX12_init_165 : decode cX12_init 165 = .ok (.bipush 6, 2) := by decide +kernel
theorem dX12_init_167 : decode cX12_init 167 = .ok (.bipush 116, 2) := by decide +kernel
theorem dX12_init_169 : decode cX12_init 169 = .ok (.castore, 1) := by decide +kernel
theorem dX12_init_170 : decode cX12_init 170 = .ok (.putfield 34, 3) := by decide +kernel
theorem dX12_init_173 : decode cX12_init 173 = .ok (.aload_n 0, 1) := by decide +kernel
theorem dX12_init_174 : decode cX12_init 174 = .ok (.bipush 7, 2) := by decide +kernel
theorem dX12_init_176 : decode cX12_init 176 = .ok (.newarray .char, 2) := by decide +kernel
theorem dX12_init_178 : decode cX12_init 178 = .ok (.dup, 1) := by decide +kernel
theorem dX12_init_179 : decode cX12_init 179 = .ok (.iconst 0, 1) := by decide +kernel
theorem dX12_init_180 : decode cX12_init 180 = .ok (.bipush 98, 2) := by decide +kernel
theorem dX12_init_182 : decode cX12_init 182 = .ok (.castore, 1) := by decide +kernel
theorem dX12_init_183 : decode cX12_init 183 = .ok (.dup, 1) := by decide +kernel
theorem dX12_init_184 : decode cX12_init 184 = .ok (.iconst 1, 1) := by decide +kernel
theorem dX12_init_185 : decode cX12_init 185 = .ok (.bipush 111, 2) := by decide +kernel
theorem dX12_init_187 : decode cX12_init 187 = .ok (.castore, 1) := by decide +kernel
theorem dX12_init_188 : decode cX12_init 188 = .ok (.dup, 1) := by decide +kernel
theorem dX12_init_189 : decode cX12_init 189 = .ok (.iconst 2, 1) := by decide +kernel
theorem dX12_init_190 : decode cX12_init 190 = .ok (.bipush 117, 2) := by decide +kernel
theorem dX12_init_192 : decode cX12_init 192 = .ok (.castore, 1) := by decide +kernel
theorem dX12_init_193 : decode cX12_init 193 = .ok (.dup, 1) := by decide +kernel
theorem dX12_init_194 : decode cX12_init 194 = .ok (.iconst 3, 1) := by decide +kernel
theorem dX12_init_195 : decode cX12_init 195 = .ok (.bipush 110, 2) := by decide +kernel
theorem dX12_init_197 : decode cX12_init 197 = .ok (.castore, 1) := by decide +kernel
theorem dX12_init_198 : decode cX12_init 198 = .ok (.dup, 1) := by decide +kernel
theorem dX12_init_199 : decode cX12_init 199 = .ok (.iconst 4, 1) := by decide +kernel
theorem dX12_init_200 : decode cX12_init 200 = .ok (.bipush 99, 2) := by decide +kernel
theorem dX12_init_202 : decode cX12_init 202 = .ok (.castore, 1) := by decide +kernel
theorem dX12_init_203 : decode cX12_init 203 = .ok (.dup, 1) := by decide +kernel
theorem dX12_init_204 : decode cX12_init 204 = .ok (.iconst 5, 1) := by decide +kernel
theorem dX12_init_205 : decode cX12_init 205 = .ok (.bipush 101, 2) := by decide +kernel
theorem dX12_init_207 : decode cX12_init 207 = .ok (.castore, 1) := by decide +kernel
theorem dX12_init_208 : decode cX12_init 208 = .ok (.dup, 1) := by decide +kernel
theorem dX12_init_209 : decode cX12_init 209 = .ok (.bipush 6, 2) := by decide +kernel
theorem dX12_init_211 : decode cX12_init 211 = .ok (.bipush 100, 2) := by decide +kernel
theorem dX12_init_213 : decode cX12_init 213 = .ok (.castore, 1) := by decide +kernel
theorem dX12_init_214 : decode cX12_init 214 = .ok (.putfield 37, 3) := by decide +kernel
theorem dX12_init_217 : decode cX12_init 217 = .ok (.aload_n 0, 1) := by decide +kernel
theorem dX12_init_218 : decode cX12_init 218 = .ok (.bipush 6, 2) := by decide +kernel
theorem dX12_init_220 : decode cX12_init 220 = .ok (.newarray .char, 2) := by decide +kernel
theorem dX12_init_222 : decode cX12_init 222 = .ok (.dup, 1) := by decide +kernel
theorem dX12_init_223 : decode cX12_init 223 = .ok (.iconst 0, 1) := by decide +kernel
theorem dX12_init_224 : decode cX12_init 224 = .ok (.bipush 112, 2) := by decide +kernel
theorem dX12_init_226 : decode cX12_init 226 = .ok (.castore, 1) := by decide +kernel
theorem dX12_init_227 : decode cX12_init 227 = .ok (.dup, 1) := by decide +kernel
theorem dX12_init_228 : decode cX12_init 228 = .ok (.iconst 1, 1) := by decide +kernel
theorem dX12_init_229 : decode cX12_init 229 = .ok (.bipush 97, 2) := by decide +kernel
theorem dX12_init_231 : decode cX12_init 231 = .ok (.castore, 1) := by decide +kernel
theorem dX12_init_232 : decode cX12_init 232 = .ok (.dup, 1) := by decide +kernel
theorem dX12_init_233 : decode cX12_init 233 = .ok (.iconst 2, 1) := by decide +kernel
theorem dX12_init_234 : decode cX12_init 234 = .ok (.bipush 115, 2) := by decide +kernel
theorem dX12_init_236 : decode cX12_init 236 = .ok (.castore, 1) := by decide +kernel
theorem dX12_init_237 : decode cX12_init 237 = .ok (.dup, 1) := by decide +kernel
theorem dX12_init_238 : decode cX12_init 238 = .ok (.iconst 3, 1) := by decide +kernel
theorem dX12_init_239 : decode cX12_init 239 = .ok (.bipush 115, 2) := by decide +kernel
theorem dX12_init_241 : decode cX12_init 241 = .ok (.castore, 1) := by decide +kernel
theorem dX12_init_242 : decode cX12_init 242 = .ok (.dup, 1) := by decide +kernel
theorem dX12_init_243 : decode cX12_init 243 = .ok (.iconst 4, 1) := by decide +kernel
theorem dX12_init_244 : decode cX12_init 244 = .ok (.bipush 101, 2) := by decide +kernel
theorem dX12_init_246 : decode cX12_init 246 = .ok (.castore, 1) := by decide +kernel
theorem dX12_init_247 : decode cX12_init 247 = .ok (.dup, 1) := by decide +kernel
theorem dX12_init_248 : decode cX12_init 248 = .ok (.iconst 5, 1) := by decide +kernel
theorem dX12_init_249 : decode cX12_init 249 = .ok (.bipush 100, 2) := by decide +kernel
theorem dX12_init_251 : decode cX12_init 251 = .ok (.castore, 1) := by decide +kernel
theorem dX12_init_252 : decode cX12_init 252 = .ok (.putfield 40, 3) := by decide +kernel
theorem dX12_init_255 : decode cX12_init 255 = .ok (.aload_n 0, 1) := by decide +kernel
theorem dX12_init_256 : decode cX12_init 256 = .ok (.iconst 5, 1) := by decide +kernel
theorem dX12_init_257 : decode cX12_init 257 = .ok (.newarray .char, 2) := by decide +kernel
theorem dX12_init_259 : decode cX12_init 259 = .ok (.dup, 1) := by decide +kernel
theorem dX12_init_260 : decode cX12_init 260 = .ok (.iconst 0, 1) := by decide +kernel
theorem dX12_init_261 : decode cX12_init 261 = .ok (.bipush 115, 2) := by decide +kernel
theorem dX12_init_263 : decode cX12_init 263 = .ok (.castore, 1) := by decide +kernel
theorem dX12_init_264 : decode cX12_init 264 = .ok (.dup, 1) := by decide +kernel
theorem dX12_init_265 : decode cX12_init 265 = .ok (.iconst 1, 1) := by decide +kernel
theorem dX12_init_266 : decode cX12_init 266 = .ok (.bipush 104, 2) := by decide +kernel
theorem dX12_init_268 : decode cX12_init 268 = .ok (.castore, 1) := by decide +kernel
theorem dX12_init_269 : decode cX12_init 269 = .ok (.dup, 1) := by decide +kernel
theorem dX12_init_270 : decode cX12_init 270 = .ok (.iconst 2, 1) := by decide +kernel
theorem dX12_init_271 : decode cX12_init 271 = .ok (.bipush 97, 2) := by decide +kernel
theorem dX12_init_273 : decode cX12_init 273 = .ok (.castore, 1) := by decide +kernel
theorem dX12_init_274 : decode cX12_init 274 = .ok (.dup, 1) := by decide +kernel
theorem dX12_init_275 : decode cX12_init 275 = .ok (.iconst 3, 1) := by decide +kernel
theorem dX12_init_276 : decode cX12_init 276 = .ok (.bipush 102, 2) := by decide +kernel
theorem dX12_init_278 : decode cX12_init 278 = .ok (.castore, 1) := by decide +kernel
theorem dX12_init_279 : decode cX12_init 279 = .ok (.dup, 1) := by decide +kernel
theorem dX12_init_280 : decode cX12_init 280 = .ok (.iconst 4, 1) := by decide +kernel
theorem dX12_init_281 : decode cX12_init 281 = .ok (.bipush 116, 2) := by decide +kernel
theorem dX12_init_283 : decode cX12_init 283 = .ok (.castore, 1) := by decide +kernel
theorem dX12_init_284 : decode cX12_init 284 = .ok (.putfield 43, 3) := by decide +kernel
theorem dX12_init_287 : decode cX12_init 287 = .ok (.aload_n 0, 1) := by decide +kernel
theorem dX12_init_288 : decode cX12_init 288 = .ok (.bipush 125, 2) := by decide +kernel
theorem dX12_init_290 : decode cX12_init 290 = .ok (.newarray .int, 2) := by decide +kernel
theorem dX12_init_292 : decode cX12_init 292 = .ok (.putfield 46, 3) := by decide +kernel
theorem dX12_init_295 : decode cX12_init 295 = .ok (.aload_n 0, 1) := by decide +kernel
theorem dX12_init_296 : decode cX12_init 296 = .ok (.iconst 3, 1) := by decide +kernel
theorem dX12_init_297 : decode cX12_init 297 = .ok (.newarray .boolean, 2) := by decide +kernel
theorem dX12_init_299 : decode cX12_init 299 = .ok (.putfield 49, 3) := by decide +kernel
theorem dX12_init_302 : decode cX12_init 302 = .ok (.aload_n 0, 1) := by decide +kernel
theorem dX12_init_303 : decode cX12_init 303 = .ok (.bipush 6, 2) := by decide +kernel
theorem dX12_init_305 : decode cX12_init 305 = .ok (.newarray .int, 2) := by decide +kernel
theorem dX12_init_307 : decode cX12_init 307 = .ok (.putfield 53, 3) := by decide +kernel
theorem dX12_init_310 : decode cX12_init 310 = .ok (.aload_n 0, 1) := by decide +kernel
theorem dX12_init_311 : decode cX12_init 311 = .ok (.bipush 6, 2) := by decide +kernel
theorem dX12_init_313 : decode cX12_init 313 = .ok (.newarray .int, 2) := by decide +kernel
theorem dX12_init_315 : decode cX12_init 315 = .ok (.putfield 56, 3) := by decide +kernel
theorem dX12_init_318 : decode cX12_init 318 = .ok (.aload_n 0, 1) := by decide +kernel
theorem dX12_init_319 : decode cX12_init 319 = .ok (.bipush 6, 2) := by decide +kernel
theorem dX12_init_321 : decode cX12_init 321 = .ok (.newarray .int, 2) := by decide +kernel
theorem dX12_init_323 : decode cX12_init 323 = .ok (.putfield 59, 3) := by decide +kernel
theorem dX12_init_326 : decode cX12_init 326 = .ok (.aload_n 0, 1) := by decide +kernel
theorem dX12_init_327 : decode cX12_init 327 = .ok (.bipush 6, 2) := by decide +kernel
theorem dX12_init_329 : decode cX12_init 329 = .ok (.newarray .int, 2) := by decide +kernel
theorem dX12_init_331 : decode cX12_init 331 = .ok (.putfield 62, 3) := by decide +kernel
theorem dX12_init_334 : decode cX12_init 334 = .ok (.aload_n 0, 1) := by decide +kernel
theorem dX12_init_335 : decode cX12_init 335 = .ok (.bipush 16, 2) := by decide +kernel
theorem dX12_init_337 : decode cX12_init 337 = .ok (.newarray .int, 2) := by decide +kernel
theorem dX12_init_339 : decode cX12_init 339 = .ok (.putfield 65, 3) := by decide +kernel
theorem dX12_init_342 : decode cX12_init 342 = .ok (.aload_n 0, 1) := by decide +kernel
theorem dX12_init_343 : decode cX12_init 343 = .ok (.bipush 16, 2) := by decide +kernel
theorem dX12_init_345 : decode cX12_init 345 = .ok (.newarray .int, 2) := by decide +kernel
theorem dX12_init_347 : decode cX12_init 347 = .ok (.putfield 68, 3) := by decide +kernel
theorem dX12_init_350 : decode cX12_init 350 = .ok (.iconst 0, 1) := by decide +kernel
theorem dX12_init_351 : decode cX12_init 351 = .ok (.istore_n 1, 1) := by decide +kernel
theorem dX12_init_352 : decode cX12_init 352 = .ok (.iload_n 1, 1) := by decide +kernel
theorem dX12_init_353 : decode cX12_init 353 = .ok (.bipush 16, 2) := by decide +kernel
theorem dX12_init_355 : decode cX12_init 355 = .ok (.if_icmp .ge 30, 3) := by decide +kernel
theorem dX12_init_358 : decode cX12_init 358 = .ok (.aload_n 0, 1) := by decide +kernel
theorem dX12_init_359 : decode cX12_init 359 = .ok (.getfield 8, 3) := by decide +kernel
theorem dX12_init_362 : decode cX12_init 362 = .ok (.bipush 125, 2) := by decide +kernel
theorem dX12_init_364 : decode cX12_init 364 = .ok (.iload_n 1, 1) := by decide +kernel
theorem dX12_init_365 : decode cX12_init 365 = .ok (.iadd, 1) := by decide +kernel
theorem dX12_init_366 : decode cX12_init 366 = .ok (.iconst (-1), 1) := by decide +kernel
theorem dX12_init_367 : decode cX12_init 367 = .ok (.iastore, 1) := by decide +kernel
theorem dX12_init_368 : decode cX12_init 368 = .ok (.aload_n 0, 1) := by decide +kernel
theorem dX12_init_369 : decode cX12_init 369 = .ok (.getfield 8, 3) := by decide +kernel
theorem dX12_init_372 : decode cX12_init 372 = .ok (.sipush 6881, 3) := by decide +kernel
theorem dX12_init_375 : decode cX12_init 375 = .ok (.iload_n 1, 1) := by decide +kernel
theorem dX12_init_376 : decode cX12_init 376 = .ok (.iadd, 1) := by decide +kernel
theorem dX12_init_377 : decode cX12_init 377 = .ok (.iconst (-1), 1) := by decide +kernel
theorem dX12_init_378 : decode cX12_init 378 = .ok (.iastore, 1) := by decide +kernel
theorem dX12_init_379 : decode cX12_init 379 = .ok (.iinc 1 1, 3) := by decide +kernel
theorem dX12_init_382 : decode cX12_init 382 = .ok (.goto (-30), 3) := by decide +kernel
theorem dX12_init_385 : decode cX12_init 385 = .ok (.return_, 1) := by decide +kernel
def f_X12_init_352 (N : Nat) : Nat → Nat → Int32 → zH → Option zH
  | 0, _, _, _ => none
  | n + 1, l0, l1, h => if (16 : Int32) ≤ l1 then some h else (zgR h 12 (some l0) 0).bind fun x1 => (zst h 0 x1 ((125 : Int32) + l1) ((-1) : Int32)).bind fun h1 => (zgR h1 12 (some l0) 0).bind fun x2 => (zst h1 0 x2 ((6881 : Int32) + l1) ((-1) : Int32)).bind fun h2 => f_X12_init_352 N n l0 (l1 + (1 : Int32)) h2
set_option maxHeartbeats 4000000 in
set_option maxRecDepth 100000 in
theorem s_X12_init_352 {g : zG} (hg : g.2.1.map (fun q => q.2) = zty) {h0 : zH} (N : Nat) : ∀ (n : Nat) (l0 : Nat) (l1 : Int32) (h : zH) (h' : zH), f_X12_init_352 N n l0 l1 h = some h' → zR g jX12_init h0 352 [some (zr (some l0)), some (zi l1)] [] h none h' := by
  intro n
  induction n with
  | zero =>
    intro l0 l1 h h' hf
    cases hf
  | succ n ih =>
    intro l0 l1 h h' hf
    rw [f_X12_init_352] at hf
    refine zr_iload_n (x := l1) dX12_init_352 rfl rfl ?_
    refine zr_bipush (v := (16 : Int32)) dX12_init_353 (by decide) ?_
    by_cases hc1 : (16 : Int32) ≤ l1
    · rw [if_pos hc1] at hf
      refine zr_icge_t (tgt := 385) dX12_init_355 (by decide) hc1 ?_
      cases hf
      exact zr_ret none trivial dX12_init_385
    · rw [if_neg hc1] at hf
      refine zr_icge_f 385 dX12_init_355 (by decide) hc1 ?_
      refine zr_aload_n (v := .inl (some l0)) dX12_init_358 rfl rfl ?_
      revert hf; refine zbi (fun x1 e_x1 hf => ?_)
      refine zq_getR kg_490 dX12_init_359 e_x1 ?_
      refine zr_bipush (v := (125 : Int32)) dX12_init_362 (by decide) ?_
      refine zr_iload_n (x := l1) dX12_init_364 rfl rfl ?_
      refine zr_iadd dX12_init_365 ?_
      refine zr_iconst (v := ((-1) : Int32)) dX12_init_366 (by decide) ?_
      revert hf; refine zbi (fun h1 e_h1 hf => ?_)
      refine zq_iast dX12_init_367 e_h1 ?_
      refine zr_aload_n (v := .inl (some l0)) dX12_init_368 rfl rfl ?_
      revert hf; refine zbi (fun x2 e_x2 hf => ?_)
      refine zq_getR kg_490 dX12_init_369 e_x2 ?_
      refine zr_sipush (v := (6881 : Int32)) dX12_init_372 (by decide) ?_
      refine zr_iload_n (x := l1) dX12_init_375 rfl rfl ?_
      refine zr_iadd dX12_init_376 ?_
      refine zr_iconst (v := ((-1) : Int32)) dX12_init_377 (by decide) ?_
      revert hf; refine zbi (fun h2 e_h2 hf => ?_)
      refine zq_iast dX12_init_378 e_h2 ?_
      refine zq_iinc (x := l1) (y := (1 : Int32)) (L' := [some (zr (some l0)), some (zi (l1 + (1 : Int32)))]) dX12_init_379 rfl (by decide) (by decide) rfl ?_
      refine zr_goto (tgt := 352) dX12_init_382 (by decide) ?_
      exact ih l0 (l1 + (1 : Int32)) h2 h' hf
def f_X12_init (N : Nat) (l0 : Nat) (h : zH) : Option zH := zna h 0 (34490 : Int32) fun a1 h1 => (zpu h1 12 (some l0) 0 (zr (some a1))).bind fun h2 => zna h2 0 (1000 : Int32) fun a2 h3 => (zpu h3 12 (some l0) 2 (zr (some a2))).bind fun h4 => (zpu h4 12 (some l0) 12 (zi ((-1) : Int32))).bind fun h5 => zna h5 2 (4 : Int32) fun a3 h6 => (zst h6 2 (some a3) (0 : Int32) (vp_nar .char (102 : Int32))).bind fun h7 => (zst h7 2 (some a3) (1 : Int32) (vp_nar .char (97 : Int32))).bind fun h8 => (zst h8 2 (some a3) (2 : Int32) (vp_nar .char (99 : Int32))).bind fun h9 => (zst h9 2 (some a3) (3 : Int32) (vp_nar .char (101 : Int32))).bind fun h10 => (zpu h10 12 (some l0) 13 (zr (some a3))).bind fun h11 => zna h11 2 (3 : Int32) fun a4 h12 => (zst h12 2 (some a4) (0 : Int32) (vp_nar .char (108 : Int32))).bind fun h13 => (zst h13 2 (some a4) (1 : Int32) (vp_nar .char (101 : Int32))).bind fun h14 => (zst h14 2 (some a4) (2 : Int32) (vp_nar .char (103 : Int32))).bind fun h15 => (zpu h15 12 (some l0) 14 (zr (some a4))).bind fun h16 => zna h16 2 (4 : Int32) fun a5 h17 => (zst h17 2 (some a5) (0 : Int32) (vp_nar .char (109 : Int32))).bind fun h18 => (zst h18 2 (some a5) (1 : Int32) (vp_nar .char (111 : Int32))).bind fun h19 => (zst h19 2 (some a5) (2 : Int32) (vp_nar .char (115 : Int32))).bind fun h20 => (zst h20 2 (some a5) (3 : Int32) (vp_nar .char (116 : Int32))).bind fun h21 => (zpu h21 12 (some l0) 15 (zr (some a5))).bind fun h22 => zna h22 2 (4 : Int32) fun a6 h23 => (zst h23 2 (some a6) (0 : Int32) (vp_nar .char (108 : Int32))).bind fun h24 => (zst h24 2 (some a6) (1 : Int32) (vp_nar .char (97 : Int32))).bind fun h25 => (zst h25 2 (some a6) (2 : Int32) (vp_nar .char (115 : Int32))).bind fun h26 => (zst h26 2 (some a6) (3 : Int32) (vp_nar .char (116 : Int32))).bind fun h27 => (zpu h27 12 (some l0) 16 (zr (some a6))).bind fun h28 => zna h28 2 (7 : Int32) fun a7 h29 => (zst h29 2 (some a7) (0 : Int32) (vp_nar .char (110 : Int32))).bind fun h30 => (zst h30 2 (some a7) (1 : Int32) (vp_nar .char (101 : Int32))).bind fun h31 => (zst h31 2 (some a7) (2 : Int32) (vp_nar .char (97 : Int32))).bind fun h32 => (zst h32 2 (some a7) (3 : Int32) (vp_nar .char (114 : Int32))).bind fun h33 => (zst h33 2 (some a7) (4 : Int32) (vp_nar .char (101 : Int32))).bind fun h34 => (zst h34 2 (some a7) (5 : Int32) (vp_nar .char (115 : Int32))).bind fun h35 => (zst h35 2 (some a7) (6 : Int32) (vp_nar .char (116 : Int32))).bind fun h36 => (zpu h36 12 (some l0) 17 (zr (some a7))).bind fun h37 => zna h37 2 (7 : Int32) fun a8 h38 => (zst h38 2 (some a8) (0 : Int32) (vp_nar .char (98 : Int32))).bind fun h39 => (zst h39 2 (some a8) (1 : Int32) (vp_nar .char (111 : Int32))).bind fun h40 => (zst h40 2 (some a8) (2 : Int32) (vp_nar .char (117 : Int32))).bind fun h41 => (zst h41 2 (some a8) (3 : Int32) (vp_nar .char (110 : Int32))).bind fun h42 => (zst h42 2 (some a8) (4 : Int32) (vp_nar .char (99 : Int32))).bind fun h43 => (zst h43 2 (some a8) (5 : Int32) (vp_nar .char (101 : Int32))).bind fun h44 => (zst h44 2 (some a8) (6 : Int32) (vp_nar .char (100 : Int32))).bind fun h45 => (zpu h45 12 (some l0) 18 (zr (some a8))).bind fun h46 => zna h46 2 (6 : Int32) fun a9 h47 => (zst h47 2 (some a9) (0 : Int32) (vp_nar .char (112 : Int32))).bind fun h48 => (zst h48 2 (some a9) (1 : Int32) (vp_nar .char (97 : Int32))).bind fun h49 => (zst h49 2 (some a9) (2 : Int32) (vp_nar .char (115 : Int32))).bind fun h50 => (zst h50 2 (some a9) (3 : Int32) (vp_nar .char (115 : Int32))).bind fun h51 => (zst h51 2 (some a9) (4 : Int32) (vp_nar .char (101 : Int32))).bind fun h52 => (zst h52 2 (some a9) (5 : Int32) (vp_nar .char (100 : Int32))).bind fun h53 => (zpu h53 12 (some l0) 19 (zr (some a9))).bind fun h54 => zna h54 2 (5 : Int32) fun a10 h55 => (zst h55 2 (some a10) (0 : Int32) (vp_nar .char (115 : Int32))).bind fun h56 => (zst h56 2 (some a10) (1 : Int32) (vp_nar .char (104 : Int32))).bind fun h57 => (zst h57 2 (some a10) (2 : Int32) (vp_nar .char (97 : Int32))).bind fun h58 => (zst h58 2 (some a10) (3 : Int32) (vp_nar .char (102 : Int32))).bind fun h59 => (zst h59 2 (some a10) (4 : Int32) (vp_nar .char (116 : Int32))).bind fun h60 => (zpu h60 12 (some l0) 20 (zr (some a10))).bind fun h61 => zna h61 0 (125 : Int32) fun a11 h62 => (zpu h62 12 (some l0) 21 (zr (some a11))).bind fun h63 => zna h63 3 (3 : Int32) fun a12 h64 => (zpu h64 12 (some l0) 22 (zr (some a12))).bind fun h65 => zna h65 0 (6 : Int32) fun a13 h66 => (zpu h66 12 (some l0) 24 (zr (some a13))).bind fun h67 => zna h67 0 (6 : Int32) fun a14 h68 => (zpu h68 12 (some l0) 25 (zr (some a14))).bind fun h69 => zna h69 0 (6 : Int32) fun a15 h70 => (zpu h70 12 (some l0) 26 (zr (some a15))).bind fun h71 => zna h71 0 (6 : Int32) fun a16 h72 => (zpu h72 12 (some l0) 27 (zr (some a16))).bind fun h73 => zna h73 0 (16 : Int32) fun a17 h74 => (zpu h74 12 (some l0) 29 (zr (some a17))).bind fun h75 => zna h75 0 (16 : Int32) fun a18 h76 => (zpu h76 12 (some l0) 30 (zr (some a18))).bind fun h77 => f_X12_init_352 N N l0 (0 : Int32) h77
set_option maxHeartbeats 4000000 in
set_option maxRecDepth 100000 in
theorem s_X12_init {g : zG} (hg : g.2.1.map (fun q => q.2) = zty) {h0 : zH} (N : Nat) (l0 : Nat) (h : zH) (h' : zH) (hf : f_X12_init N l0 h = some h') : zR g jX12_init h0 0 [some (zr (some l0)), none] [] h none h' := by
  unfold f_X12_init at hf
  refine zr_aload_n (v := .inl (some l0)) dX12_init_0 rfl rfl ?_
  refine zr_objInit kw_594 kw_1 kw_2 ⟨Nat.le_of_ble_eq_true rfl, Nat.le_of_ble_eq_true rfl⟩ dX12_init_1 ?_
  refine zr_aload_n (v := .inl (some l0)) dX12_init_4 rfl rfl ?_
  refine zr_ldc (v := (34490 : Int32)) kw_595 dX12_init_5 ?_
  obtain ⟨a1, h1, e_a1, hf⟩ := zna_spec hf
  refine zq_newa (atype := .int) (t := 0) kw_14 rfl (fun _ _ => rfl) (by decide) dX12_init_7 e_a1 ?_
  revert hf; refine zbi (fun h2 e_h2 hf => ?_)
  refine zq_put kp_491 dX12_init_9 (zn_a _ _) e_h2 ?_
  refine zr_aload_n (v := .inl (some l0)) dX12_init_12 rfl rfl ?_
  refine zr_sipush (v := (1000 : Int32)) dX12_init_13 (by decide) ?_
  obtain ⟨a2, h3, e_a2, hf⟩ := zna_spec hf
  refine zq_newa (atype := .int) (t := 0) kw_14 rfl (fun _ _ => rfl) (by decide) dX12_init_16 e_a2 ?_
  revert hf; refine zbi (fun h4 e_h4 hf => ?_)
  refine zq_put kp_492 dX12_init_18 (zn_a _ _) e_h4 ?_
  refine zr_aload_n (v := .inl (some l0)) dX12_init_21 rfl rfl ?_
  refine zr_iconst (v := ((-1) : Int32)) dX12_init_22 (by decide) ?_
  revert hf; refine zbi (fun h5 e_h5 hf => ?_)
  refine zq_put (kp_493 _) dX12_init_23 (zn_i _) e_h5 ?_
  refine zr_aload_n (v := .inl (some l0)) dX12_init_26 rfl rfl ?_
  refine zr_iconst (v := (4 : Int32)) dX12_init_27 (by decide) ?_
  obtain ⟨a3, h6, e_a3, hf⟩ := zna_spec hf
  refine zq_newa (atype := .char) (t := 2) kw_598 rfl (fun _ _ => rfl) (by decide) dX12_init_28 e_a3 ?_
  refine zr_dup dX12_init_30 ?_
  refine zr_iconst (v := (0 : Int32)) dX12_init_31 (by decide) ?_
  refine zr_bipush (v := (102 : Int32)) dX12_init_32 (by decide) ?_
  revert hf; refine zbi (fun h7 e_h7 hf => ?_)
  refine zq_cast dX12_init_34 e_h7 ?_
  refine zr_dup dX12_init_35 ?_
  refine zr_iconst (v := (1 : Int32)) dX12_init_36 (by decide) ?_
  refine zr_bipush (v := (97 : Int32)) dX12_init_37 (by decide) ?_
  revert hf; refine zbi (fun h8 e_h8 hf => ?_)
  refine zq_cast dX12_init_39 e_h8 ?_
  refine zr_dup dX12_init_40 ?_
  refine zr_iconst (v := (2 : Int32)) dX12_init_41 (by decide) ?_
  refine zr_bipush (v := (99 : Int32)) dX12_init_42 (by decide) ?_
  revert hf; refine zbi (fun h9 e_h9 hf => ?_)
  refine zq_cast dX12_init_44 e_h9 ?_
  refine zr_dup dX12_init_45 ?_
  refine zr_iconst (v := (3 : Int32)) dX12_init_46 (by decide) ?_
  refine zr_bipush (v := (101 : Int32)) dX12_init_47 (by decide) ?_
  revert hf; refine zbi (fun h10 e_h10 hf => ?_)
  refine zq_cast dX12_init_49 e_h10 ?_
  revert hf; refine zbi (fun h11 e_h11 hf => ?_)
  refine zq_put kp_494 dX12_init_50 (zn_a _ _) e_h11 ?_
  refine zr_aload_n (v := .inl (some l0)) dX12_init_53 rfl rfl ?_
  refine zr_iconst (v := (3 : Int32)) dX12_init_54 (by decide) ?_
  obtain ⟨a4, h12, e_a4, hf⟩ := zna_spec hf
  refine zq_newa (atype := .char) (t := 2) kw_598 rfl (fun _ _ => rfl) (by decide) dX12_init_55 e_a4 ?_
  refine zr_dup dX12_init_57 ?_
  refine zr_iconst (v := (0 : Int32)) dX12_init_58 (by decide) ?_
  refine zr_bipush (v := (108 : Int32)) dX12_init_59 (by decide) ?_
  revert hf; refine zbi (fun h13 e_h13 hf => ?_)
  refine zq_cast dX12_init_61 e_h13 ?_
  refine zr_dup dX12_init_62 ?_
  refine zr_iconst (v := (1 : Int32)) dX12_init_63 (by decide) ?_
  refine zr_bipush (v := (101 : Int32)) dX12_init_64 (by decide) ?_
  revert hf; refine zbi (fun h14 e_h14 hf => ?_)
  refine zq_cast dX12_init_66 e_h14 ?_
  refine zr_dup dX12_init_67 ?_
  refine zr_iconst (v := (2 : Int32)) dX12_init_68 (by decide) ?_
  refine zr_bipush (v := (103 : Int32)) dX12_init_69 (by decide) ?_
  revert hf; refine zbi (fun h15 e_h15 hf => ?_)
  refine zq_cast dX12_init_71 e_h15 ?_
  revert hf; refine zbi (fun h16 e_h16 hf => ?_)
  refine zq_put kp_495 dX12_init_72 (zn_a _ _) e_h16 ?_
  refine zr_aload_n (v := .inl (some l0)) dX12_init_75 rfl rfl ?_
  refine zr_iconst (v := (4 : Int32)) dX12_init_76 (by decide) ?_
  obtain ⟨a5, h17, e_a5, hf⟩ := zna_spec hf
  refine zq_newa (atype := .char) (t := 2) kw_598 rfl (fun _ _ => rfl) (by decide) dX12_init_77 e_a5 ?_
  refine zr_dup dX12_init_79 ?_
  refine zr_iconst (v := (0 : Int32)) dX12_init_80 (by decide) ?_
  refine zr_bipush (v := (109 : Int32)) dX12_init_81 (by decide) ?_
  revert hf; refine zbi (fun h18 e_h18 hf => ?_)
  refine zq_cast dX12_init_83 e_h18 ?_
  refine zr_dup dX12_init_84 ?_
  refine zr_iconst (v := (1 : Int32)) dX12_init_85 (by decide) ?_
  refine zr_bipush (v := (111 : Int32)) dX12_init_86 (by decide) ?_
  revert hf; refine zbi (fun h19 e_h19 hf => ?_)
  refine zq_cast dX12_init_88 e_h19 ?_
  refine zr_dup dX12_init_89 ?_
  refine zr_iconst (v := (2 : Int32)) dX12_init_90 (by decide) ?_
  refine zr_bipush (v := (115 : Int32)) dX12_init_91 (by decide) ?_
  revert hf; refine zbi (fun h20 e_h20 hf => ?_)
  refine zq_cast dX12_init_93 e_h20 ?_
  refine zr_dup dX12_init_94 ?_
  refine zr_iconst (v := (3 : Int32)) dX12_init_95 (by decide) ?_
  refine zr_bipush (v := (116 : Int32)) dX12_init_96 (by decide) ?_
  revert hf; refine zbi (fun h21 e_h21 hf => ?_)
  refine zq_cast dX12_init_98 e_h21 ?_
  revert hf; refine zbi (fun h22 e_h22 hf => ?_)
  refine zq_put kp_496 dX12_init_99 (zn_a _ _) e_h22 ?_
  refine zr_aload_n (v := .inl (some l0)) dX12_init_102 rfl rfl ?_
  refine zr_iconst (v := (4 : Int32)) dX12_init_103 (by decide) ?_
  obtain ⟨a6, h23, e_a6, hf⟩ := zna_spec hf
  refine zq_newa (atype := .char) (t := 2) kw_598 rfl (fun _ _ => rfl) (by decide) dX12_init_104 e_a6 ?_
  refine zr_dup dX12_init_106 ?_
  refine zr_iconst (v := (0 : Int32)) dX12_init_107 (by decide) ?_
  refine zr_bipush (v := (108 : Int32)) dX12_init_108 (by decide) ?_
  revert hf; refine zbi (fun h24 e_h24 hf => ?_)
  refine zq_cast dX12_init_110 e_h24 ?_
  refine zr_dup dX12_init_111 ?_
  refine zr_iconst (v := (1 : Int32)) dX12_init_112 (by decide) ?_
  refine zr_bipush (v := (97 : Int32)) dX12_init_113 (by decide) ?_
  revert hf; refine zbi (fun h25 e_h25 hf => ?_)
  refine zq_cast dX12_init_115 e_h25 ?_
  refine zr_dup dX12_init_116 ?_
  refine zr_iconst (v := (2 : Int32)) dX12_init_117 (by decide) ?_
  refine zr_bipush (v := (115 : Int32)) dX12_init_118 (by decide) ?_
  revert hf; refine zbi (fun h26 e_h26 hf => ?_)
  refine zq_cast dX12_init_120 e_h26 ?_
  refine zr_dup dX12_init_121 ?_
  refine zr_iconst (v := (3 : Int32)) dX12_init_122 (by decide) ?_
  refine zr_bipush (v := (116 : Int32)) dX12_init_123 (by decide) ?_
  revert hf; refine zbi (fun h27 e_h27 hf => ?_)
  refine zq_cast dX12_init_125 e_h27 ?_
  revert hf; refine zbi (fun h28 e_h28 hf => ?_)
  refine zq_put kp_497 dX12_init_126 (zn_a _ _) e_h28 ?_
  refine zr_aload_n (v := .inl (some l0)) dX12_init_129 rfl rfl ?_
  refine zr_bipush (v := (7 : Int32)) dX12_init_130 (by decide) ?_
  obtain ⟨a7, h29, e_a7, hf⟩ := zna_spec hf
  refine zq_newa (atype := .char) (t := 2) kw_598 rfl (fun _ _ => rfl) (by decide) dX12_init_132 e_a7 ?_
  refine zr_dup dX12_init_134 ?_
  refine zr_iconst (v := (0 : Int32)) dX12_init_135 (by decide) ?_
  refine zr_bipush (v := (110 : Int32)) dX12_init_136 (by decide) ?_
  revert hf; refine zbi (fun h30 e_h30 hf => ?_)
  refine zq_cast dX12_init_138 e_h30 ?_
  refine zr_dup dX12_init_139 ?_
  refine zr_iconst (v := (1 : Int32)) dX12_init_140 (by decide) ?_
  refine zr_bipush (v := (101 : Int32)) dX12_init_141 (by decide) ?_
  revert hf; refine zbi (fun h31 e_h31 hf => ?_)
  refine zq_cast dX12_init_143 e_h31 ?_
  refine zr_dup dX12_init_144 ?_
  refine zr_iconst (v := (2 : Int32)) dX12_init_145 (by decide) ?_
  refine zr_bipush (v := (97 : Int32)) dX12_init_146 (by decide) ?_
  revert hf; refine zbi (fun h32 e_h32 hf => ?_)
  refine zq_cast dX12_init_148 e_h32 ?_
  refine zr_dup dX12_init_149 ?_
  refine zr_iconst (v := (3 : Int32)) dX12_init_150 (by decide) ?_
  refine zr_bipush (v := (114 : Int32)) dX12_init_151 (by decide) ?_
  revert hf; refine zbi (fun h33 e_h33 hf => ?_)
  refine zq_cast dX12_init_153 e_h33 ?_
  refine zr_dup dX12_init_154 ?_
  refine zr_iconst (v := (4 : Int32)) dX12_init_155 (by decide) ?_
  refine zr_bipush (v := (101 : Int32)) dX12_init_156 (by decide) ?_
  revert hf; refine zbi (fun h34 e_h34 hf => ?_)
  refine zq_cast dX12_init_158 e_h34 ?_
  refine zr_dup dX12_init_159 ?_
  refine zr_iconst (v := (5 : Int32)) dX12_init_160 (by decide) ?_
  refine zr_bipush (v := (115 : Int32)) dX12_init_161 (by decide) ?_
  revert hf; refine zbi (fun h35 e_h35 hf => ?_)
  refine zq_cast dX12_init_163 e_h35 ?_
  refine zr_dup dX12_init_164 ?_
  refine zr_bipush (v := (6 : Int32)) dX12_init_165 (by decide) ?_
  refine zr_bipush (v := (116 : Int32)) dX12_init_167 (by decide) ?_
  revert hf; refine zbi (fun h36 e_h36 hf => ?_)
  refine zq_cast dX12_init_169 e_h36 ?_
  revert hf; refine zbi (fun h37 e_h37 hf => ?_)
  refine zq_put kp_498 dX12_init_170 (zn_a _ _) e_h37 ?_
  refine zr_aload_n (v := .inl (some l0)) dX12_init_173 rfl rfl ?_
  refine zr_bipush (v := (7 : Int32)) dX12_init_174 (by decide) ?_
  obtain ⟨a8, h38, e_a8, hf⟩ := zna_spec hf
  refine zq_newa (atype := .char) (t := 2) kw_598 rfl (fun _ _ => rfl) (by decide) dX12_init_176 e_a8 ?_
  refine zr_dup dX12_init_178 ?_
  refine zr_iconst (v := (0 : Int32)) dX12_init_179 (by decide) ?_
  refine zr_bipush (v := (98 : Int32)) dX12_init_180 (by decide) ?_
  revert hf; refine zbi (fun h39 e_h39 hf => ?_)
  refine zq_cast dX12_init_182 e_h39 ?_
  refine zr_dup dX12_init_183 ?_
  refine zr_iconst (v := (1 : Int32)) dX12_init_184 (by decide) ?_
  refine zr_bipush (v := (111 : Int32)) dX12_init_185 (by decide) ?_
  revert hf; refine zbi (fun h40 e_h40 hf => ?_)
  refine zq_cast dX12_init_187 e_h40 ?_
  refine zr_dup dX12_init_188 ?_
  refine zr_iconst (v := (2 : Int32)) dX12_init_189 (by decide) ?_
  refine zr_bipush (v := (117 : Int32)) dX12_init_190 (by decide) ?_
  revert hf; refine zbi (fun h41 e_h41 hf => ?_)
  refine zq_cast dX12_init_192 e_h41 ?_
  refine zr_dup dX12_init_193 ?_
  refine zr_iconst (v := (3 : Int32)) dX12_init_194 (by decide) ?_
  refine zr_bipush (v := (110 : Int32)) dX12_init_195 (by decide) ?_
  revert hf; refine zbi (fun h42 e_h42 hf => ?_)
  refine zq_cast dX12_init_197 e_h42 ?_
  refine zr_dup dX12_init_198 ?_
  refine zr_iconst (v := (4 : Int32)) dX12_init_199 (by decide) ?_
  refine zr_bipush (v := (99 : Int32)) dX12_init_200 (by decide) ?_
  revert hf; refine zbi (fun h43 e_h43 hf => ?_)
  refine zq_cast dX12_init_202 e_h43 ?_
  refine zr_dup dX12_init_203 ?_
  refine zr_iconst (v := (5 : Int32)) dX12_init_204 (by decide) ?_
  refine zr_bipush (v := (101 : Int32)) dX12_init_205 (by decide) ?_
  revert hf; refine zbi (fun h44 e_h44 hf => ?_)
  refine zq_cast dX12_init_207 e_h44 ?_
  refine zr_dup dX12_init_208 ?_
  refine zr_bipush (v := (6 : Int32)) dX12_init_209 (by decide) ?_
  refine zr_bipush (v := (100 : Int32)) dX12_init_211 (by decide) ?_
  revert hf; refine zbi (fun h45 e_h45 hf => ?_)
  refine zq_cast dX12_init_213 e_h45 ?_
  revert hf; refine zbi (fun h46 e_h46 hf => ?_)
  refine zq_put kp_499 dX12_init_214 (zn_a _ _) e_h46 ?_
  refine zr_aload_n (v := .inl (some l0)) dX12_init_217 rfl rfl ?_
  refine zr_bipush (v := (6 : Int32)) dX12_init_218 (by decide) ?_
  obtain ⟨a9, h47, e_a9, hf⟩ := zna_spec hf
  refine zq_newa (atype := .char) (t := 2) kw_598 rfl (fun _ _ => rfl) (by decide) dX12_init_220 e_a9 ?_
  refine zr_dup dX12_init_222 ?_
  refine zr_iconst (v := (0 : Int32)) dX12_init_223 (by decide) ?_
  refine zr_bipush (v := (112 : Int32)) dX12_init_224 (by decide) ?_
  revert hf; refine zbi (fun h48 e_h48 hf => ?_)
  refine zq_cast dX12_init_226 e_h48 ?_
  refine zr_dup dX12_init_227 ?_
  refine zr_iconst (v := (1 : Int32)) dX12_init_228 (by decide) ?_
  refine zr_bipush (v := (97 : Int32)) dX12_init_229 (by decide) ?_
  revert hf; refine zbi (fun h49 e_h49 hf => ?_)
  refine zq_cast dX12_init_231 e_h49 ?_
  refine zr_dup dX12_init_232 ?_
  refine zr_iconst (v := (2 : Int32)) dX12_init_233 (by decide) ?_
  refine zr_bipush (v := (115 : Int32)) dX12_init_234 (by decide) ?_
  revert hf; refine zbi (fun h50 e_h50 hf => ?_)
  refine zq_cast dX12_init_236 e_h50 ?_
  refine zr_dup dX12_init_237 ?_
  refine zr_iconst (v := (3 : Int32)) dX12_init_238 (by decide) ?_
  refine zr_bipush (v := (115 : Int32)) dX12_init_239 (by decide) ?_
  revert hf; refine zbi (fun h51 e_h51 hf => ?_)
  refine zq_cast dX12_init_241 e_h51 ?_
  refine zr_dup dX12_init_242 ?_
  refine zr_iconst (v := (4 : Int32)) dX12_init_243 (by decide) ?_
  refine zr_bipush (v := (101 : Int32)) dX12_init_244 (by decide) ?_
  revert hf; refine zbi (fun h52 e_h52 hf => ?_)
  refine zq_cast dX12_init_246 e_h52 ?_
  refine zr_dup dX12_init_247 ?_
  refine zr_iconst (v := (5 : Int32)) dX12_init_248 (by decide) ?_
  refine zr_bipush (v := (100 : Int32)) dX12_init_249 (by decide) ?_
  revert hf; refine zbi (fun h53 e_h53 hf => ?_)
  refine zq_cast dX12_init_251 e_h53 ?_
  revert hf; refine zbi (fun h54 e_h54 hf => ?_)
  refine zq_put kp_500 dX12_init_252 (zn_a _ _) e_h54 ?_
  refine zr_aload_n (v := .inl (some l0)) dX12_init_255 rfl rfl ?_
  refine zr_iconst (v := (5 : Int32)) dX12_init_256 (by decide) ?_
  obtain ⟨a10, h55, e_a10, hf⟩ := zna_spec hf
  refine zq_newa (atype := .char) (t := 2) kw_598 rfl (fun _ _ => rfl) (by decide) dX12_init_257 e_a10 ?_
  refine zr_dup dX12_init_259 ?_
  refine zr_iconst (v := (0 : Int32)) dX12_init_260 (by decide) ?_
  refine zr_bipush (v := (115 : Int32)) dX12_init_261 (by decide) ?_
  revert hf; refine zbi (fun h56 e_h56 hf => ?_)
  refine zq_cast dX12_init_263 e_h56 ?_
  refine zr_dup dX12_init_264 ?_
  refine zr_iconst (v := (1 : Int32)) dX12_init_265 (by decide) ?_
  refine zr_bipush (v := (104 : Int32)) dX12_init_266 (by decide) ?_
  revert hf; refine zbi (fun h57 e_h57 hf => ?_)
  refine zq_cast dX12_init_268 e_h57 ?_
  refine zr_dup dX12_init_269 ?_
  refine zr_iconst (v := (2 : Int32)) dX12_init_270 (by decide) ?_
  refine zr_bipush (v := (97 : Int32)) dX12_init_271 (by decide) ?_
  revert hf; refine zbi (fun h58 e_h58 hf => ?_)
  refine zq_cast dX12_init_273 e_h58 ?_
  refine zr_dup dX12_init_274 ?_
  refine zr_iconst (v := (3 : Int32)) dX12_init_275 (by decide) ?_
  refine zr_bipush (v := (102 : Int32)) dX12_init_276 (by decide) ?_
  revert hf; refine zbi (fun h59 e_h59 hf => ?_)
  refine zq_cast dX12_init_278 e_h59 ?_
  refine zr_dup dX12_init_279 ?_
  refine zr_iconst (v := (4 : Int32)) dX12_init_280 (by decide) ?_
  refine zr_bipush (v := (116 : Int32)) dX12_init_281 (by decide) ?_
  revert hf; refine zbi (fun h60 e_h60 hf => ?_)
  refine zq_cast dX12_init_283 e_h60 ?_
  revert hf; refine zbi (fun h61 e_h61 hf => ?_)
  refine zq_put kp_501 dX12_init_284 (zn_a _ _) e_h61 ?_
  refine zr_aload_n (v := .inl (some l0)) dX12_init_287 rfl rfl ?_
  refine zr_bipush (v := (125 : Int32)) dX12_init_288 (by decide) ?_
  obtain ⟨a11, h62, e_a11, hf⟩ := zna_spec hf
  refine zq_newa (atype := .int) (t := 0) kw_14 rfl (fun _ _ => rfl) (by decide) dX12_init_290 e_a11 ?_
  revert hf; refine zbi (fun h63 e_h63 hf => ?_)
  refine zq_put kp_502 dX12_init_292 (zn_a _ _) e_h63 ?_
  refine zr_aload_n (v := .inl (some l0)) dX12_init_295 rfl rfl ?_
  refine zr_iconst (v := (3 : Int32)) dX12_init_296 (by decide) ?_
  obtain ⟨a12, h64, e_a12, hf⟩ := zna_spec hf
  refine zq_newa (atype := .boolean) (t := 3) kw_608 rfl (fun _ _ => rfl) (by decide) dX12_init_297 e_a12 ?_
  revert hf; refine zbi (fun h65 e_h65 hf => ?_)
  refine zq_put kp_503 dX12_init_299 (zn_a _ _) e_h65 ?_
  refine zr_aload_n (v := .inl (some l0)) dX12_init_302 rfl rfl ?_
  refine zr_bipush (v := (6 : Int32)) dX12_init_303 (by decide) ?_
  obtain ⟨a13, h66, e_a13, hf⟩ := zna_spec hf
  refine zq_newa (atype := .int) (t := 0) kw_14 rfl (fun _ _ => rfl) (by decide) dX12_init_305 e_a13 ?_
  revert hf; refine zbi (fun h67 e_h67 hf => ?_)
  refine zq_put kp_504 dX12_init_307 (zn_a _ _) e_h67 ?_
  refine zr_aload_n (v := .inl (some l0)) dX12_init_310 rfl rfl ?_
  refine zr_bipush (v := (6 : Int32)) dX12_init_311 (by decide) ?_
  obtain ⟨a14, h68, e_a14, hf⟩ := zna_spec hf
  refine zq_newa (atype := .int) (t := 0) kw_14 rfl (fun _ _ => rfl) (by decide) dX12_init_313 e_a14 ?_
  revert hf; refine zbi (fun h69 e_h69 hf => ?_)
  refine zq_put kp_505 dX12_init_315 (zn_a _ _) e_h69 ?_
  refine zr_aload_n (v := .inl (some l0)) dX12_init_318 rfl rfl ?_
  refine zr_bipush (v := (6 : Int32)) dX12_init_319 (by decide) ?_
  obtain ⟨a15, h70, e_a15, hf⟩ := zna_spec hf
  refine zq_newa (atype := .int) (t := 0) kw_14 rfl (fun _ _ => rfl) (by decide) dX12_init_321 e_a15 ?_
  revert hf; refine zbi (fun h71 e_h71 hf => ?_)
  refine zq_put kp_506 dX12_init_323 (zn_a _ _) e_h71 ?_
  refine zr_aload_n (v := .inl (some l0)) dX12_init_326 rfl rfl ?_
  refine zr_bipush (v := (6 : Int32)) dX12_init_327 (by decide) ?_
  obtain ⟨a16, h72, e_a16, hf⟩ := zna_spec hf
  refine zq_newa (atype := .int) (t := 0) kw_14 rfl (fun _ _ => rfl) (by decide) dX12_init_329 e_a16 ?_
  revert hf; refine zbi (fun h73 e_h73 hf => ?_)
  refine zq_put kp_507 dX12_init_331 (zn_a _ _) e_h73 ?_
  refine zr_aload_n (v := .inl (some l0)) dX12_init_334 rfl rfl ?_
  refine zr_bipush (v := (16 : Int32)) dX12_init_335 (by decide) ?_
  obtain ⟨a17, h74, e_a17, hf⟩ := zna_spec hf
  refine zq_newa (atype := .int) (t := 0) kw_14 rfl (fun _ _ => rfl) (by decide) dX12_init_337 e_a17 ?_
  revert hf; refine zbi (fun h75 e_h75 hf => ?_)
  refine zq_put kp_508 dX12_init_339 (zn_a _ _) e_h75 ?_
  refine zr_aload_n (v := .inl (some l0)) dX12_init_342 rfl rfl ?_
  refine zr_bipush (v := (16 : Int32)) dX12_init_343 (by decide) ?_
  obtain ⟨a18, h76, e_a18, hf⟩ := zna_spec hf
  refine zq_newa (atype := .int) (t := 0) kw_14 rfl (fun _ _ => rfl) (by decide) dX12_init_345 e_a18 ?_
  revert hf; refine zbi (fun h77 e_h77 hf => ?_)
  refine zq_put kp_509 dX12_init_347 (zn_a _ _) e_h77 ?_
  refine zr_iconst (v := (0 : Int32)) dX12_init_350 (by decide) ?_
  refine zq_istore_n (x := (0 : Int32)) (L' := [some (zr (some l0)), some (zi (0 : Int32))]) dX12_init_351 rfl (by decide) rfl ?_
  exact s_X12_init_352 hg N N l0 (0 : Int32) h77 h' hf
theorem c_X12_init {g : zG} (hg : g.2.1.map (fun q => q.2) = zty) {N : Nat} {l0 : Nat} {h : zH} {h' : zH} (hf : f_X12_init N l0 h = some h') : zCa g jX12_init [zr (some l0)] h none h' :=
  zCa.of hg (by decide +kernel) (Nat.le_of_ble_eq_true rfl) (s_X12_init hg N l0 h h' hf)
theorem dX12_keeps_0 : decode cX12_keeps 0 = .ok (.aload_n 0, 1) := by decide +kernel
theorem dX12_keeps_1 : decode cX12_keeps 1 = .ok (.getfield 71, 3) := by decide +kernel
theorem dX12_keeps_4 : decode cX12_keeps 4 = .ok (.iconst 4, 1) := by decide +kernel
theorem dX12_keeps_5 : decode cX12_keeps 5 = .ok (.if_icmp .ne 41, 3) := by decide +kernel
theorem dX12_keeps_8 : decode cX12_keeps 8 = .ok (.sipush 6898, 3) := by decide +kernel
theorem dX12_keeps_11 : decode cX12_keeps 11 = .ok (.istore_n 1, 1) := by decide +kernel
theorem dX12_keeps_12 : decode cX12_keeps 12 = .ok (.iload_n 1, 1) := by decide +kernel
theorem dX12_keeps_13 : decode cX12_keeps 13 = .ok (.sipush 27592, 3) := by decide +kernel
theorem dX12_keeps_16 : decode cX12_keeps 16 = .ok (.if_icmp .ge 25, 3) := by decide +kernel
theorem dX12_keeps_19 : decode cX12_keeps 19 = .ok (.aload_n 0, 1) := by decide +kernel
theorem dX12_keeps_20 : decode cX12_keeps 20 = .ok (.getfield 8, 3) := by decide +kernel
theorem dX12_keeps_23 : decode cX12_keeps 23 = .ok (.iload_n 1, 1) := by decide +kernel
theorem dX12_keeps_24 : decode cX12_keeps 24 = .ok (.aload_n 0, 1) := by decide +kernel
theorem dX12_keeps_25 : decode cX12_keeps 25 = .ok (.getfield 8, 3) := by decide +kernel
theorem dX12_keeps_28 : decode cX12_keeps 28 = .ok (.iload_n 1, 1) := by decide +kernel
theorem dX12_keeps_29 : decode cX12_keeps 29 = .ok (.sipush 6898, 3) := by decide +kernel
theorem dX12_keeps_32 : decode cX12_keeps 32 = .ok (.iadd, 1) := by decide +kernel
theorem dX12_keeps_33 : decode cX12_keeps 33 = .ok (.iaload, 1) := by decide +kernel
theorem dX12_keeps_34 : decode cX12_keeps 34 = .ok (.iastore, 1) := by decide +kernel
theorem dX12_keeps_35 : decode cX12_keeps 35 = .ok (.iinc 1 1, 3) := by decide +kernel
theorem dX12_keeps_38 : decode cX12_keeps 38 = .ok (.goto (-26), 3) := by decide +kernel
theorem dX12_keeps_41 : decode cX12_keeps 41 = .ok (.aload_n 0, 1) := by decide +kernel
theorem dX12_keeps_42 : decode cX12_keeps 42 = .ok (.iconst 3, 1) := by decide +kernel
theorem dX12_keeps_43 : decode cX12_keeps 43 = .ok (.putfield 71, 3) := by decide +kernel
theorem dX12_keeps_46 : decode cX12_keeps 46 = .ok (.aload_n 0, 1) := by decide +kernel
theorem dX12_keeps_47 : decode cX12_keeps 47 = .ok (.dup, 1) := by decide +kernel
theorem dX12_keeps_48 : decode cX12_keeps 48 = .ok (.getfield 71, 3) := by decide +kernel
theorem dX12_keeps_51 : decode cX12_keeps 51 = .ok (.iconst 1, 1) := by decide +kernel
theorem dX12_keeps_52 : decode cX12_keeps 52 = .ok (.iadd, 1) := by decide +kernel
theorem dX12_keeps_53 : decode cX12_keeps 53 = .ok (.putfield 71, 3) := by decide +kernel
theorem dX12_keeps_56 : decode cX12_keeps 56 = .ok (.iconst 0, 1) := by decide +kernel
theorem dX12_keeps_57 : decode cX12_keeps 57 = .ok (.istore_n 1, 1) := by decide +kernel
theorem dX12_keeps_58 : decode cX12_keeps 58 = .ok (.iload_n 1, 1) := by decide +kernel
theorem dX12_keeps_59 : decode cX12_keeps 59 = .ok (.sipush 6898, 3) := by decide +kernel
theorem dX12_keeps_62 : decode cX12_keeps 62 = .ok (.if_icmp .ge 30, 3) := by decide +kernel
theorem dX12_keeps_65 : decode cX12_keeps 65 = .ok (.aload_n 0, 1) := by decide +kernel
theorem dX12_keeps_66 : decode cX12_keeps 66 = .ok (.getfield 8, 3) := by decide +kernel
theorem dX12_keeps_69 : decode cX12_keeps 69 = .ok (.aload_n 0, 1) := by decide +kernel
theorem dX12_keeps_70 : decode cX12_keeps 70 = .ok (.getfield 71, 3) := by decide +kernel
theorem dX12_keeps_73 : decode cX12_keeps 73 = .ok (.sipush 6898, 3) := by decide +kernel
theorem dX12_keeps_76 : decode cX12_keeps 76 = .ok (.imul, 1) := by decide +kernel
theorem dX12_keeps_77 : decode cX12_keeps 77 = .ok (.iload_n 1, 1) := by decide +kernel
theorem dX12_keeps_78 : decode cX12_keeps 78 = .ok (.iadd, 1) := by decide +kernel
theorem dX12_keeps_79 : decode cX12_keeps 79 = .ok (.aload_n 0, 1) := by decide +kernel
theorem dX12_keeps_80 : decode cX12_keeps 80 = .ok (.getfield 8, 3) := by decide +kernel
theorem dX12_keeps_83 : decode cX12_keeps 83 = .ok (.iload_n 1, 1) := by decide +kernel
theorem dX12_keeps_84 : decode cX12_keeps 84 = .ok (.iaload, 1) := by decide +kernel
theorem dX12_keeps_85 : decode cX12_keeps 85 = .ok (.iastore, 1) := by decide +kernel
theorem dX12_keeps_86 : decode cX12_keeps 86 = .ok (.iinc 1 1, 3) := by decide +kernel
theorem dX12_keeps_89 : decode cX12_keeps 89 = .ok (.goto (-31), 3) := by decide +kernel
theorem dX12_keeps_92 : decode cX12_keeps 92 = .ok (.return_, 1) := by decide +kernel
def f_X12_keeps_58 (N : Nat) : Nat → Nat → Int32 → zH → Option zH
  | 0, _, _, _ => none
  | n + 1, l0, l1, h => if (6898 : Int32) ≤ l1 then some h else (zgR h 12 (some l0) 0).bind fun x1 => (zgI h 12 (some l0) 1).bind fun x2 => (zgR h 12 (some l0) 0).bind fun x3 => (zld h 0 x3 l1).bind fun x4 => (zst h 0 x1 ((x2 * (6898 : Int32)) + l1) x4).bind fun h1 => f_X12_keeps_58 N n l0 (l1 + (1 : Int32)) h1
set_option maxHeartbeats 4000000 in
set_option maxRecDepth 100000 in
theorem s_X12_keeps_58 {g : zG} (hg : g.2.1.map (fun q => q.2) = zty) {h0 : zH} (N : Nat) : ∀ (n : Nat) (l0 : Nat) (l1 : Int32) (h : zH) (h' : zH), f_X12_keeps_58 N n l0 l1 h = some h' → zR g jX12_keeps h0 58 [some (zr (some l0)), some (zi l1)] [] h none h' := by
  intro n
  induction n with
  | zero =>
    intro l0 l1 h h' hf
    cases hf
  | succ n ih =>
    intro l0 l1 h h' hf
    rw [f_X12_keeps_58] at hf
    refine zr_iload_n (x := l1) dX12_keeps_58 rfl rfl ?_
    refine zr_sipush (v := (6898 : Int32)) dX12_keeps_59 (by decide) ?_
    by_cases hc1 : (6898 : Int32) ≤ l1
    · rw [if_pos hc1] at hf
      refine zr_icge_t (tgt := 92) dX12_keeps_62 (by decide) hc1 ?_
      cases hf
      exact zr_ret none trivial dX12_keeps_92
    · rw [if_neg hc1] at hf
      refine zr_icge_f 92 dX12_keeps_62 (by decide) hc1 ?_
      refine zr_aload_n (v := .inl (some l0)) dX12_keeps_65 rfl rfl ?_
      revert hf; refine zbi (fun x1 e_x1 hf => ?_)
      refine zq_getR kg_490 dX12_keeps_66 e_x1 ?_
      refine zr_aload_n (v := .inl (some l0)) dX12_keeps_69 rfl rfl ?_
      revert hf; refine zbi (fun x2 e_x2 hf => ?_)
      refine zq_getI kg_510 dX12_keeps_70 e_x2 ?_
      refine zr_sipush (v := (6898 : Int32)) dX12_keeps_73 (by decide) ?_
      refine zr_imul dX12_keeps_76 ?_
      refine zr_iload_n (x := l1) dX12_keeps_77 rfl rfl ?_
      refine zr_iadd dX12_keeps_78 ?_
      refine zr_aload_n (v := .inl (some l0)) dX12_keeps_79 rfl rfl ?_
      revert hf; refine zbi (fun x3 e_x3 hf => ?_)
      refine zq_getR kg_490 dX12_keeps_80 e_x3 ?_
      refine zr_iload_n (x := l1) dX12_keeps_83 rfl rfl ?_
      revert hf; refine zbi (fun x4 e_x4 hf => ?_)
      refine zq_iald dX12_keeps_84 e_x4 ?_
      revert hf; refine zbi (fun h1 e_h1 hf => ?_)
      refine zq_iast dX12_keeps_85 e_h1 ?_
      refine zq_iinc (x := l1) (y := (1 : Int32)) (L' := [some (zr (some l0)), some (zi (l1 + (1 : Int32)))]) dX12_keeps_86 rfl (by decide) (by decide) rfl ?_
      refine zr_goto (tgt := 58) dX12_keeps_89 (by decide) ?_
      exact ih l0 (l1 + (1 : Int32)) h1 h' hf
def f_X12_keeps_46 (N : Nat) (l0 : Nat) (h : zH) : Option zH := (zgI h 12 (some l0) 1).bind fun x1 => (zpu h 12 (some l0) 1 (zi (x1 + (1 : Int32)))).bind fun h1 => f_X12_keeps_58 N N l0 (0 : Int32) h1
set_option maxHeartbeats 4000000 in
set_option maxRecDepth 100000 in
theorem s_X12_keeps_46 {g : zG} (hg : g.2.1.map (fun q => q.2) = zty) {h0 : zH} (N : Nat) (l0 : Nat) (h : zH) (h' : zH) (hf : f_X12_keeps_46 N l0 h = some h') : zR g jX12_keeps h0 46 [some (zr (some l0)), none] [] h none h' := by
  unfold f_X12_keeps_46 at hf
  refine zr_aload_n (v := .inl (some l0)) dX12_keeps_46 rfl rfl ?_
  refine zr_dup dX12_keeps_47 ?_
  revert hf; refine zbi (fun x1 e_x1 hf => ?_)
  refine zq_getI kg_510 dX12_keeps_48 e_x1 ?_
  refine zr_iconst (v := (1 : Int32)) dX12_keeps_51 (by decide) ?_
  refine zr_iadd dX12_keeps_52 ?_
  revert hf; refine zbi (fun h1 e_h1 hf => ?_)
  refine zq_put (kp_511 _) dX12_keeps_53 (zn_i _) e_h1 ?_
  refine zr_iconst (v := (0 : Int32)) dX12_keeps_56 (by decide) ?_
  refine zq_istore_n (x := (0 : Int32)) (L' := [some (zr (some l0)), some (zi (0 : Int32))]) dX12_keeps_57 rfl (by decide) rfl ?_
  exact s_X12_keeps_58 hg N N l0 (0 : Int32) h1 h' hf
def f_X12_keeps_12 (N : Nat) : Nat → Nat → Int32 → zH → Option zH
  | 0, _, _, _ => none
  | n + 1, l0, l1, h => if (27592 : Int32) ≤ l1 then (zpu h 12 (some l0) 1 (zi (3 : Int32))).bind fun h1 => f_X12_keeps_46 N l0 h1 else (zgR h 12 (some l0) 0).bind fun x1 => (zgR h 12 (some l0) 0).bind fun x2 => (zld h 0 x2 (l1 + (6898 : Int32))).bind fun x3 => (zst h 0 x1 l1 x3).bind fun h2 => f_X12_keeps_12 N n l0 (l1 + (1 : Int32)) h2
set_option maxHeartbeats 4000000 in
set_option maxRecDepth 100000 in
theorem s_X12_keeps_12 {g : zG} (hg : g.2.1.map (fun q => q.2) = zty) {h0 : zH} (N : Nat) : ∀ (n : Nat) (l0 : Nat) (l1 : Int32) (h : zH) (h' : zH), f_X12_keeps_12 N n l0 l1 h = some h' → zR g jX12_keeps h0 12 [some (zr (some l0)), some (zi l1)] [] h none h' := by
  intro n
  induction n with
  | zero =>
    intro l0 l1 h h' hf
    cases hf
  | succ n ih =>
    intro l0 l1 h h' hf
    rw [f_X12_keeps_12] at hf
    refine zr_iload_n (x := l1) dX12_keeps_12 rfl rfl ?_
    refine zr_sipush (v := (27592 : Int32)) dX12_keeps_13 (by decide) ?_
    by_cases hc1 : (27592 : Int32) ≤ l1
    · rw [if_pos hc1] at hf
      refine zr_icge_t (tgt := 41) dX12_keeps_16 (by decide) hc1 ?_
      refine zr_aload_n (v := .inl (some l0)) dX12_keeps_41 rfl rfl ?_
      refine zr_iconst (v := (3 : Int32)) dX12_keeps_42 (by decide) ?_
      revert hf; refine zbi (fun h1 e_h1 hf => ?_)
      refine zq_put (kp_511 _) dX12_keeps_43 (zn_i _) e_h1 ?_
      refine zr_forget 1 (L' := [some (zr (some l0)), none]) rfl ?_
      exact s_X12_keeps_46 hg N l0 h1 h' hf
    · rw [if_neg hc1] at hf
      refine zr_icge_f 41 dX12_keeps_16 (by decide) hc1 ?_
      refine zr_aload_n (v := .inl (some l0)) dX12_keeps_19 rfl rfl ?_
      revert hf; refine zbi (fun x1 e_x1 hf => ?_)
      refine zq_getR kg_490 dX12_keeps_20 e_x1 ?_
      refine zr_iload_n (x := l1) dX12_keeps_23 rfl rfl ?_
      refine zr_aload_n (v := .inl (some l0)) dX12_keeps_24 rfl rfl ?_
      revert hf; refine zbi (fun x2 e_x2 hf => ?_)
      refine zq_getR kg_490 dX12_keeps_25 e_x2 ?_
      refine zr_iload_n (x := l1) dX12_keeps_28 rfl rfl ?_
      refine zr_sipush (v := (6898 : Int32)) dX12_keeps_29 (by decide) ?_
      refine zr_iadd dX12_keeps_32 ?_
      revert hf; refine zbi (fun x3 e_x3 hf => ?_)
      refine zq_iald dX12_keeps_33 e_x3 ?_
      revert hf; refine zbi (fun h2 e_h2 hf => ?_)
      refine zq_iast dX12_keeps_34 e_h2 ?_
      refine zq_iinc (x := l1) (y := (1 : Int32)) (L' := [some (zr (some l0)), some (zi (l1 + (1 : Int32)))]) dX12_keeps_35 rfl (by decide) (by decide) rfl ?_
      refine zr_goto (tgt := 12) dX12_keeps_38 (by decide) ?_
      exact ih l0 (l1 + (1 : Int32)) h2 h' hf
def f_X12_keeps (N : Nat) (l0 : Nat) (h : zH) : Option zH := (zgI h 12 (some l0) 1).bind fun x1 => if x1 = (4 : Int32) then f_X12_keeps_12 N N l0 (6898 : Int32) h else f_X12_keeps_46 N l0 h
set_option maxHeartbeats 4000000 in
set_option maxRecDepth 100000 in
theorem s_X12_keeps {g : zG} (hg : g.2.1.map (fun q => q.2) = zty) {h0 : zH} (N : Nat) (l0 : Nat) (h : zH) (h' : zH) (hf : f_X12_keeps N l0 h = some h') : zR g jX12_keeps h0 0 [some (zr (some l0)), none] [] h none h' := by
  unfold f_X12_keeps at hf
  refine zr_aload_n (v := .inl (some l0)) dX12_keeps_0 rfl rfl ?_
  revert hf; refine zbi (fun x1 e_x1 hf => ?_)
  refine zq_getI kg_510 dX12_keeps_1 e_x1 ?_
  refine zr_iconst (v := (4 : Int32)) dX12_keeps_4 (by decide) ?_
  by_cases hc1 : x1 = (4 : Int32)
  · rw [if_pos hc1] at hf
    refine zr_icne_f 46 dX12_keeps_5 (by decide) hc1 ?_
    refine zr_sipush (v := (6898 : Int32)) dX12_keeps_8 (by decide) ?_
    refine zq_istore_n (x := (6898 : Int32)) (L' := [some (zr (some l0)), some (zi (6898 : Int32))]) dX12_keeps_11 rfl (by decide) rfl ?_
    exact s_X12_keeps_12 hg N N l0 (6898 : Int32) h h' hf
  · rw [if_neg hc1] at hf
    refine zr_icne_t (tgt := 46) dX12_keeps_5 (by decide) hc1 ?_
    exact s_X12_keeps_46 hg N l0 h h' hf
theorem c_X12_keeps {g : zG} (hg : g.2.1.map (fun q => q.2) = zty) {N : Nat} {l0 : Nat} {h : zH} {h' : zH} (hf : f_X12_keeps N l0 h = some h') : zCa g jX12_keeps [zr (some l0)] h none h' :=
  zCa.of hg (by decide +kernel) (Nat.le_of_ble_eq_true rfl) (s_X12_keeps hg N l0 h h' hf)
theorem dX12_undo_0 : decode cX12_undo 0 = .ok (.aload_n 0, 1) := by decide +kernel
theorem dX12_undo_1 : decode cX12_undo 1 = .ok (.getfield 71, 3) := by decide +kernel
theorem dX12_undo_4 : decode cX12_undo 4 = .ok (.ifCond .ne 5, 3) := by decide +kernel
theorem dX12_undo_7 : decode cX12_undo 7 = .ok (.iconst (-1), 1) := by decide +kernel
theorem dX12_undo_8 : decode cX12_undo 8 = .ok (.ireturn, 1) := by decide +kernel
theorem dX12_undo_9 : decode cX12_undo 9 = .ok (.iconst 0, 1) := by decide +kernel
theorem dX12_undo_10 : decode cX12_undo 10 = .ok (.istore_n 1, 1) := by decide +kernel
theorem dX12_undo_11 : decode cX12_undo 11 = .ok (.iload_n 1, 1) := by decide +kernel
theorem dX12_undo_12 : decode cX12_undo 12 = .ok (.sipush 6898, 3) := by decide +kernel
theorem dX12_undo_15 : decode cX12_undo 15 = .ok (.if_icmp .ge 30, 3) := by decide +kernel
theorem dX12_undo_18 : decode cX12_undo 18 = .ok (.aload_n 0, 1) := by decide +kernel
theorem dX12_undo_19 : decode cX12_undo 19 = .ok (.getfield 8, 3) := by decide +kernel
theorem dX12_undo_22 : decode cX12_undo 22 = .ok (.iload_n 1, 1) := by decide +kernel
theorem dX12_undo_23 : decode cX12_undo 23 = .ok (.aload_n 0, 1) := by decide +kernel
theorem dX12_undo_24 : decode cX12_undo 24 = .ok (.getfield 8, 3) := by decide +kernel
theorem dX12_undo_27 : decode cX12_undo 27 = .ok (.aload_n 0, 1) := by decide +kernel
theorem dX12_undo_28 : decode cX12_undo 28 = .ok (.getfield 71, 3) := by decide +kernel
theorem dX12_undo_31 : decode cX12_undo 31 = .ok (.sipush 6898, 3) := by decide +kernel
theorem dX12_undo_34 : decode cX12_undo 34 = .ok (.imul, 1) := by decide +kernel
theorem dX12_undo_35 : decode cX12_undo 35 = .ok (.iload_n 1, 1) := by decide +kernel
theorem dX12_undo_36 : decode cX12_undo 36 = .ok (.iadd, 1) := by decide +kernel
theorem dX12_undo_37 : decode cX12_undo 37 = .ok (.iaload, 1) := by decide +kernel
theorem dX12_undo_38 : decode cX12_undo 38 = .ok (.iastore, 1) := by decide +kernel
theorem dX12_undo_39 : decode cX12_undo 39 = .ok (.iinc 1 1, 3) := by decide +kernel
theorem dX12_undo_42 : decode cX12_undo 42 = .ok (.goto (-31), 3) := by decide +kernel
theorem dX12_undo_45 : decode cX12_undo 45 = .ok (.aload_n 0, 1) := by decide +kernel
theorem dX12_undo_46 : decode cX12_undo 46 = .ok (.dup, 1) := by decide +kernel
theorem dX12_undo_47 : decode cX12_undo 47 = .ok (.getfield 71, 3) := by decide +kernel
theorem dX12_undo_50 : decode cX12_undo 50 = .ok (.iconst 1, 1) := by decide +kernel
theorem dX12_undo_51 : decode cX12_undo 51 = .ok (.isub, 1) := by decide +kernel
theorem dX12_undo_52 : decode cX12_undo 52 = .ok (.putfield 71, 3) := by decide +kernel
theorem dX12_undo_55 : decode cX12_undo 55 = .ok (.aload_n 0, 1) := by decide +kernel
theorem dX12_undo_56 : decode cX12_undo 56 = .ok (.getfield 71, 3) := by decide +kernel
theorem dX12_undo_59 : decode cX12_undo 59 = .ok (.ireturn, 1) := by decide +kernel
def f_X12_undo_11 (N : Nat) : Nat → Nat → Int32 → zH → Option (Int32 × zH)
  | 0, _, _, _ => none
  | n + 1, l0, l1, h => if (6898 : Int32) ≤ l1 then (zgI h 12 (some l0) 1).bind fun x1 => (zpu h 12 (some l0) 1 (zi (x1 - (1 : Int32)))).bind fun h1 => (zgI h1 12 (some l0) 1).bind fun x2 => some (x2, h1) else (zgR h 12 (some l0) 0).bind fun x3 => (zgR h 12 (some l0) 0).bind fun x4 => (zgI h 12 (some l0) 1).bind fun x5 => (zld h 0 x4 ((x5 * (6898 : Int32)) + l1)).bind fun x6 => (zst h 0 x3 l1 x6).bind fun h2 => f_X12_undo_11 N n l0 (l1 + (1 : Int32)) h2
set_option maxHeartbeats 4000000 in
set_option maxRecDepth 100000 in
theorem s_X12_undo_11 {g : zG} (hg : g.2.1.map (fun q => q.2) = zty) {h0 : zH} (N : Nat) : ∀ (n : Nat) (l0 : Nat) (l1 : Int32) (h : zH) (r : Int32) (h' : zH), f_X12_undo_11 N n l0 l1 h = some (r, h') → zR g jX12_undo h0 11 [some (zr (some l0)), some (zi l1)] [] h (some (zi r)) h' := by
  intro n
  induction n with
  | zero =>
    intro l0 l1 h r h' hf
    cases hf
  | succ n ih =>
    intro l0 l1 h r h' hf
    rw [f_X12_undo_11] at hf
    refine zr_iload_n (x := l1) dX12_undo_11 rfl rfl ?_
    refine zr_sipush (v := (6898 : Int32)) dX12_undo_12 (by decide) ?_
    by_cases hc1 : (6898 : Int32) ≤ l1
    · rw [if_pos hc1] at hf
      refine zr_icge_t (tgt := 45) dX12_undo_15 (by decide) hc1 ?_
      refine zr_aload_n (v := .inl (some l0)) dX12_undo_45 rfl rfl ?_
      refine zr_dup dX12_undo_46 ?_
      revert hf; refine zbi (fun x1 e_x1 hf => ?_)
      refine zq_getI kg_510 dX12_undo_47 e_x1 ?_
      refine zr_iconst (v := (1 : Int32)) dX12_undo_50 (by decide) ?_
      refine zr_isub dX12_undo_51 ?_
      revert hf; refine zbi (fun h1 e_h1 hf => ?_)
      refine zq_put (kp_511 _) dX12_undo_52 (zn_i _) e_h1 ?_
      refine zr_aload_n (v := .inl (some l0)) dX12_undo_55 rfl rfl ?_
      revert hf; refine zbi (fun x2 e_x2 hf => ?_)
      refine zq_getI kg_510 dX12_undo_56 e_x2 ?_
      cases hf
      exact zr_ret _ rfl dX12_undo_59
    · rw [if_neg hc1] at hf
      refine zr_icge_f 45 dX12_undo_15 (by decide) hc1 ?_
      refine zr_aload_n (v := .inl (some l0)) dX12_undo_18 rfl rfl ?_
      revert hf; refine zbi (fun x3 e_x3 hf => ?_)
      refine zq_getR kg_490 dX12_undo_19 e_x3 ?_
      refine zr_iload_n (x := l1) dX12_undo_22 rfl rfl ?_
      refine zr_aload_n (v := .inl (some l0)) dX12_undo_23 rfl rfl ?_
      revert hf; refine zbi (fun x4 e_x4 hf => ?_)
      refine zq_getR kg_490 dX12_undo_24 e_x4 ?_
      refine zr_aload_n (v := .inl (some l0)) dX12_undo_27 rfl rfl ?_
      revert hf; refine zbi (fun x5 e_x5 hf => ?_)
      refine zq_getI kg_510 dX12_undo_28 e_x5 ?_
      refine zr_sipush (v := (6898 : Int32)) dX12_undo_31 (by decide) ?_
      refine zr_imul dX12_undo_34 ?_
      refine zr_iload_n (x := l1) dX12_undo_35 rfl rfl ?_
      refine zr_iadd dX12_undo_36 ?_
      revert hf; refine zbi (fun x6 e_x6 hf => ?_)
      refine zq_iald dX12_undo_37 e_x6 ?_
      revert hf; refine zbi (fun h2 e_h2 hf => ?_)
      refine zq_iast dX12_undo_38 e_h2 ?_
      refine zq_iinc (x := l1) (y := (1 : Int32)) (L' := [some (zr (some l0)), some (zi (l1 + (1 : Int32)))]) dX12_undo_39 rfl (by decide) (by decide) rfl ?_
      refine zr_goto (tgt := 11) dX12_undo_42 (by decide) ?_
      exact ih l0 (l1 + (1 : Int32)) h2 r h' hf
def f_X12_undo (N : Nat) (l0 : Nat) (h : zH) : Option (Int32 × zH) := (zgI h 12 (some l0) 1).bind fun x1 => if x1 = 0 then some (((-1) : Int32), h) else f_X12_undo_11 N N l0 (0 : Int32) h
set_option maxHeartbeats 4000000 in
set_option maxRecDepth 100000 in
theorem s_X12_undo {g : zG} (hg : g.2.1.map (fun q => q.2) = zty) {h0 : zH} (N : Nat) (l0 : Nat) (h : zH) (r : Int32) (h' : zH) (hf : f_X12_undo N l0 h = some (r, h')) : zR g jX12_undo h0 0 [some (zr (some l0)), none] [] h (some (zi r)) h' := by
  unfold f_X12_undo at hf
  refine zr_aload_n (v := .inl (some l0)) dX12_undo_0 rfl rfl ?_
  revert hf; refine zbi (fun x1 e_x1 hf => ?_)
  refine zq_getI kg_510 dX12_undo_1 e_x1 ?_
  by_cases hc1 : x1 = 0
  · rw [if_pos hc1] at hf
    refine zr_ifne_f 9 dX12_undo_4 (by decide) hc1 ?_
    refine zr_iconst (v := ((-1) : Int32)) dX12_undo_7 (by decide) ?_
    cases hf
    exact zr_ret _ rfl dX12_undo_8
  · rw [if_neg hc1] at hf
    refine zr_ifne_t (tgt := 9) dX12_undo_4 (by decide) hc1 ?_
    refine zr_iconst (v := (0 : Int32)) dX12_undo_9 (by decide) ?_
    refine zq_istore_n (x := (0 : Int32)) (L' := [some (zr (some l0)), some (zi (0 : Int32))]) dX12_undo_10 rfl (by decide) rfl ?_
    exact s_X12_undo_11 hg N N l0 (0 : Int32) h r h' hf
theorem c_X12_undo {g : zG} (hg : g.2.1.map (fun q => q.2) = zty) {N : Nat} {l0 : Nat} {h : zH} {r : Int32} {h' : zH} (hf : f_X12_undo N l0 h = some (r, h')) : zCa g jX12_undo [zr (some l0)] h (some (zi r)) h' :=
  zCa.of hg (by decide +kernel) (Nat.le_of_ble_eq_true rfl) (s_X12_undo hg N l0 h r h' hf)
theorem dX12_feed_0 : decode cX12_feed 0 = .ok (.aload_n 0, 1) := by decide +kernel
theorem dX12_feed_1 : decode cX12_feed 1 = .ok (.getfield 74, 3) := by decide +kernel
theorem dX12_feed_4 : decode cX12_feed 4 = .ok (.bipush 20, 2) := by decide +kernel
theorem dX12_feed_6 : decode cX12_feed 6 = .ok (.iadd, 1) := by decide +kernel
theorem dX12_feed_7 : decode cX12_feed 7 = .ok (.sipush 1000, 3) := by decide +kernel
theorem dX12_feed_10 : decode cX12_feed 10 = .ok (.if_icmp .le 5, 3) := by decide +kernel
theorem dX12_feed_13 : decode cX12_feed 13 = .ok (.iconst (-1), 1) := by decide +kernel
theorem dX12_feed_14 : decode cX12_feed 14 = .ok (.ireturn, 1) := by decide +kernel
theorem dX12_feed_15 : decode cX12_feed 15 = .ok (.iconst 0, 1) := by decide +kernel
theorem dX12_feed_16 : decode cX12_feed 16 = .ok (.istore 6, 2) := by decide +kernel
theorem dX12_feed_18 : decode cX12_feed 18 = .ok (.iload 6, 2) := by decide +kernel
theorem dX12_feed_20 : decode cX12_feed 20 = .ok (.bipush 20, 2) := by decide +kernel
theorem dX12_feed_22 : decode cX12_feed 22 = .ok (.if_icmp .ge 92, 3) := by decide +kernel
theorem dX12_feed_25 : decode cX12_feed 25 = .ok (.iload 6, 2) := by decide +kernel
theorem dX12_feed_27 : decode cX12_feed 27 = .ok (.iconst 4, 1) := by decide +kernel
theorem dX12_feed_28 : decode cX12_feed 28 = .ok (.if_icmp .ge 7, 3) := by decide +kernel
theorem dX12_feed_31 : decode cX12_feed 31 = .ok (.iload_n 1, 1) := by decide +kernel
theorem dX12_feed_32 : decode cX12_feed 32 = .ok (.goto 39, 3) := by decide +kernel
theorem dX12_feed_35 : decode cX12_feed 35 = .ok (.iload 6, 2) := by decide +kernel
theorem dX12_feed_37 : decode cX12_feed 37 = .ok (.bipush 8, 2) := by decide +kernel
theorem dX12_feed_39 : decode cX12_feed 39 = .ok (.if_icmp .ge 7, 3) := by decide +kernel
theorem dX12_feed_42 : decode cX12_feed 42 = .ok (.iload_n 2, 1) := by decide +kernel
theorem dX12_feed_43 : decode cX12_feed 43 = .ok (.goto 28, 3) := by decide +kernel
theorem dX12_feed_46 : decode cX12_feed 46 = .ok (.iload 6, 2) := by decide +kernel
theorem dX12_feed_48 : decode cX12_feed 48 = .ok (.bipush 12, 2) := by decide +kernel
theorem dX12_feed_50 : decode cX12_feed 50 = .ok (.if_icmp .ge 7, 3) := by decide +kernel
theorem dX12_feed_53 : decode cX12_feed 53 = .ok (.iload_n 3, 1) := by decide +kernel
theorem dX12_feed_54 : decode cX12_feed 54 = .ok (.goto 17, 3) := by decide +kernel
theorem dX12_feed_57 : decode cX12_feed 57 = .ok (.iload 6, 2) := by decide +kernel
theorem dX12_feed_59 : decode cX12_feed 59 = .ok (.bipush 16, 2) := by decide +kernel
theorem dX12_feed_61 : decode cX12_feed 61 = .ok (.if_icmp .ge 8, 3) := by decide +kernel
theorem dX12_feed_64 : decode cX12_feed 64 = .ok (.iload 4, 2) := by decide +kernel
theorem dX12_feed_66 : decode cX12_feed 66 = .ok (.goto 5, 3) := by decide +kernel
theorem dX12_feed_69 : decode cX12_feed 69 = .ok (.iload 5, 2) := by decide +kernel
theorem dX12_feed_71 : decode cX12_feed 71 = .ok (.istore 7, 2) := by decide +kernel
theorem dX12_feed_73 : decode cX12_feed 73 = .ok (.aload_n 0, 1) := by decide +kernel
theorem dX12_feed_74 : decode cX12_feed 74 = .ok (.getfield 14, 3) := by decide +kernel
theorem dX12_feed_77 : decode cX12_feed 77 = .ok (.aload_n 0, 1) := by decide +kernel
theorem dX12_feed_78 : decode cX12_feed 78 = .ok (.getfield 74, 3) := by decide +kernel
theorem dX12_feed_81 : decode cX12_feed 81 = .ok (.iload 7, 2) := by decide +kernel
theorem dX12_feed_83 : decode cX12_feed 83 = .ok (.bipush 8, 2) := by decide +kernel
theorem dX12_feed_85 : decode cX12_feed 85 = .ok (.iconst 3, 1) := by decide +kernel
theorem dX12_feed_86 : decode cX12_feed 86 = .ok (.iload 6, 2) := by decide +kernel
theorem dX12_feed_88 : decode cX12_feed 88 = .ok (.iconst 4, 1) := by decide +kernel
theorem dX12_feed_89 : decode cX12_feed 89 = .ok (.irem, 1) := by decide +kernel
theorem dX12_feed_90 : decode cX12_feed 90 = .ok (.isub, 1) := by decide +kernel
theorem dX12_feed_91 : decode cX12_feed 91 = .ok (.imul, 1) := by decide +kernel
theorem dX12_feed_92 : decode cX12_feed 92 = .ok (.ishr, 1) := by decide +kernel
theorem dX12_feed_93 : decode cX12_feed 93 = .ok (.sipush 255, 3) := by decide +kernel
theorem dX12_feed_96 : decode cX12_feed 96 = .ok (.iand, 1) := by decide +kernel
theorem dX12_feed_97 : decode cX12_feed 97 = .ok (.iastore, 1) := by decide +kernel
theorem dX12_feed_98 : decode cX12_feed 98 = .ok (.aload_n 0, 1) := by decide +kernel
theorem dX12_feed_99 : decode cX12_feed 99 = .ok (.dup, 1) := by decide +kernel
theorem dX12_feed_100 : decode cX12_feed 100 = .ok (.getfield 74, 3) := by decide +kernel
theorem dX12_feed_103 : decode cX12_feed 103 = .ok (.iconst 1, 1) := by decide +kernel
theorem dX12_feed_104 : decode cX12_feed 104 = .ok (.iadd, 1) := by decide +kernel
theorem dX12_feed_105 : decode cX12_feed 105 = .ok (.putfield 74, 3) := by decide +kernel
theorem dX12_feed_108 : decode cX12_feed 108 = .ok (.iinc 6 1, 3) := by decide +kernel
theorem dX12_feed_111 : decode cX12_feed 111 = .ok (.goto (-93), 3) := by decide +kernel
theorem dX12_feed_114 : decode cX12_feed 114 = .ok (.aload_n 0, 1) := by decide +kernel
theorem dX12_feed_115 : decode cX12_feed 115 = .ok (.getfield 74, 3) := by decide +kernel
theorem dX12_feed_118 : decode cX12_feed 118 = .ok (.ireturn, 1) := by decide +kernel
def f_X12_feed_71 (N : Nat) (k18 : Nat → Int32 → Int32 → Int32 → Int32 → Int32 → Int32 → zH → Option (Int32 × zH)) (l0 : Nat) (l1 : Int32) (l2 : Int32) (l3 : Int32) (l4 : Int32) (l5 : Int32) (l6 : Int32) (s0 : Int32) (h : zH) : Option (Int32 × zH) := (zgR h 12 (some l0) 2).bind fun x1 => (zgI h 12 (some l0) 3).bind fun x2 => (zst h 0 x1 x2 ((s0 >>> (((8 : Int32) * ((3 : Int32) - (l6 - l6 / (4 : Int32) * (4 : Int32)))) &&& 31)) &&& (255 : Int32))).bind fun h1 => (zgI h1 12 (some l0) 3).bind fun x3 => (zpu h1 12 (some l0) 3 (zi (x3 + (1 : Int32)))).bind fun h2 => k18 l0 l1 l2 l3 l4 l5 (l6 + (1 : Int32)) h2
set_option maxHeartbeats 4000000 in
set_option maxRecDepth 100000 in
theorem s_X12_feed_71 {g : zG} (hg : g.2.1.map (fun q => q.2) = zty) {h0 : zH} (N : Nat) (k18 : Nat → Int32 → Int32 → Int32 → Int32 → Int32 → Int32 → zH → Option (Int32 × zH)) (hk18 : ∀ (l0 : Nat) (l1 : Int32) (l2 : Int32) (l3 : Int32) (l4 : Int32) (l5 : Int32) (l6 : Int32) (h : zH) (r : Int32) (h' : zH), k18 l0 l1 l2 l3 l4 l5 l6 h = some (r, h') → zR g jX12_feed h0 18 [some (zr (some l0)), some (zi l1), some (zi l2), some (zi l3), some (zi l4), some (zi l5), some (zi l6), none] [] h (some (zi r)) h') (l0 : Nat) (l1 : Int32) (l2 : Int32) (l3 : Int32) (l4 : Int32) (l5 : Int32) (l6 : Int32) (s0 : Int32) (h : zH) (r : Int32) (h' : zH) (hf : f_X12_feed_71 N k18 l0 l1 l2 l3 l4 l5 l6 s0 h = some (r, h')) : zR g jX12_feed h0 71 [some (zr (some l0)), some (zi l1), some (zi l2), some (zi l3), some (zi l4), some (zi l5), some (zi l6), none] [zi s0] h (some (zi r)) h' := by
  unfold f_X12_feed_71 at hf
  refine zq_istore (x := s0) (L' := [some (zr (some l0)), some (zi l1), some (zi l2), some (zi l3), some (zi l4), some (zi l5), some (zi l6), some (zi s0)]) dX12_feed_71 (by decide) rfl ?_
  refine zr_aload_n (v := .inl (some l0)) dX12_feed_73 rfl rfl ?_
  revert hf; refine zbi (fun x1 e_x1 hf => ?_)
  refine zq_getR kg_512 dX12_feed_74 e_x1 ?_
  refine zr_aload_n (v := .inl (some l0)) dX12_feed_77 rfl rfl ?_
  revert hf; refine zbi (fun x2 e_x2 hf => ?_)
  refine zq_getI kg_513 dX12_feed_78 e_x2 ?_
  refine zr_iload (x := s0) dX12_feed_81 rfl ?_
  refine zr_bipush (v := (8 : Int32)) dX12_feed_83 (by decide) ?_
  refine zr_iconst (v := (3 : Int32)) dX12_feed_85 (by decide) ?_
  refine zr_iload (x := l6) dX12_feed_86 rfl ?_
  refine zr_iconst (v := (4 : Int32)) dX12_feed_88 (by decide) ?_
  refine zr_irem (by decide) dX12_feed_89 ?_
  refine zr_isub dX12_feed_90 ?_
  refine zr_imul dX12_feed_91 ?_
  refine zr_ishr dX12_feed_92 ?_
  refine zr_sipush (v := (255 : Int32)) dX12_feed_93 (by decide) ?_
  refine zr_iand dX12_feed_96 ?_
  revert hf; refine zbi (fun h1 e_h1 hf => ?_)
  refine zq_iast dX12_feed_97 e_h1 ?_
  refine zr_aload_n (v := .inl (some l0)) dX12_feed_98 rfl rfl ?_
  refine zr_dup dX12_feed_99 ?_
  revert hf; refine zbi (fun x3 e_x3 hf => ?_)
  refine zq_getI kg_513 dX12_feed_100 e_x3 ?_
  refine zr_iconst (v := (1 : Int32)) dX12_feed_103 (by decide) ?_
  refine zr_iadd dX12_feed_104 ?_
  revert hf; refine zbi (fun h2 e_h2 hf => ?_)
  refine zq_put (kp_514 _) dX12_feed_105 (zn_i _) e_h2 ?_
  refine zq_iinc (x := l6) (y := (1 : Int32)) (L' := [some (zr (some l0)), some (zi l1), some (zi l2), some (zi l3), some (zi l4), some (zi l5), some (zi (l6 + (1 : Int32))), some (zi s0)]) dX12_feed_108 rfl (by decide) (by decide) rfl ?_
  refine zr_goto (tgt := 18) dX12_feed_111 (by decide) ?_
  refine zr_forget 7 (L' := [some (zr (some l0)), some (zi l1), some (zi l2), some (zi l3), some (zi l4), some (zi l5), some (zi (l6 + (1 : Int32))), none]) rfl ?_
  exact hk18 l0 l1 l2 l3 l4 l5 (l6 + (1 : Int32)) h2 r h' hf
def f_X12_feed_18 (N : Nat) : Nat → Nat → Int32 → Int32 → Int32 → Int32 → Int32 → Int32 → zH → Option (Int32 × zH)
  | 0, _, _, _, _, _, _, _, _ => none
  | n + 1, l0, l1, l2, l3, l4, l5, l6, h => if (20 : Int32) ≤ l6 then (zgI h 12 (some l0) 3).bind fun x1 => some (x1, h) else if (4 : Int32) ≤ l6 then if (8 : Int32) ≤ l6 then if (12 : Int32) ≤ l6 then if (16 : Int32) ≤ l6 then f_X12_feed_71 N (fun l0 l1 l2 l3 l4 l5 l6 h => f_X12_feed_18 N n l0 l1 l2 l3 l4 l5 l6 h) l0 l1 l2 l3 l4 l5 l6 l5 h else f_X12_feed_71 N (fun l0 l1 l2 l3 l4 l5 l6 h => f_X12_feed_18 N n l0 l1 l2 l3 l4 l5 l6 h) l0 l1 l2 l3 l4 l5 l6 l4 h else f_X12_feed_71 N (fun l0 l1 l2 l3 l4 l5 l6 h => f_X12_feed_18 N n l0 l1 l2 l3 l4 l5 l6 h) l0 l1 l2 l3 l4 l5 l6 l3 h else f_X12_feed_71 N (fun l0 l1 l2 l3 l4 l5 l6 h => f_X12_feed_18 N n l0 l1 l2 l3 l4 l5 l6 h) l0 l1 l2 l3 l4 l5 l6 l2 h else f_X12_feed_71 N (fun l0 l1 l2 l3 l4 l5 l6 h => f_X12_feed_18 N n l0 l1 l2 l3 l4 l5 l6 h) l0 l1 l2 l3 l4 l5 l6 l1 h
set_option maxHeartbeats 4000000 in
set_option maxRecDepth 100000 in
theorem s_X12_feed_18 {g : zG} (hg : g.2.1.map (fun q => q.2) = zty) {h0 : zH} (N : Nat) : ∀ (n : Nat) (l0 : Nat) (l1 : Int32) (l2 : Int32) (l3 : Int32) (l4 : Int32) (l5 : Int32) (l6 : Int32) (h : zH) (r : Int32) (h' : zH), f_X12_feed_18 N n l0 l1 l2 l3 l4 l5 l6 h = some (r, h') → zR g jX12_feed h0 18 [some (zr (some l0)), some (zi l1), some (zi l2), some (zi l3), some (zi l4), some (zi l5), some (zi l6), none] [] h (some (zi r)) h' := by
  intro n
  induction n with
  | zero =>
    intro l0 l1 l2 l3 l4 l5 l6 h r h' hf
    cases hf
  | succ n ih =>
    intro l0 l1 l2 l3 l4 l5 l6 h r h' hf
    rw [f_X12_feed_18] at hf
    refine zr_iload (x := l6) dX12_feed_18 rfl ?_
    refine zr_bipush (v := (20 : Int32)) dX12_feed_20 (by decide) ?_
    by_cases hc1 : (20 : Int32) ≤ l6
    · rw [if_pos hc1] at hf
      refine zr_icge_t (tgt := 114) dX12_feed_22 (by decide) hc1 ?_
      refine zr_aload_n (v := .inl (some l0)) dX12_feed_114 rfl rfl ?_
      revert hf; refine zbi (fun x1 e_x1 hf => ?_)
      refine zq_getI kg_513 dX12_feed_115 e_x1 ?_
      cases hf
      exact zr_ret _ rfl dX12_feed_118
    · rw [if_neg hc1] at hf
      refine zr_icge_f 114 dX12_feed_22 (by decide) hc1 ?_
      refine zr_iload (x := l6) dX12_feed_25 rfl ?_
      refine zr_iconst (v := (4 : Int32)) dX12_feed_27 (by decide) ?_
      by_cases hc2 : (4 : Int32) ≤ l6
      · rw [if_pos hc2] at hf
        refine zr_icge_t (tgt := 35) dX12_feed_28 (by decide) hc2 ?_
        refine zr_iload (x := l6) dX12_feed_35 rfl ?_
        refine zr_bipush (v := (8 : Int32)) dX12_feed_37 (by decide) ?_
        by_cases hc3 : (8 : Int32) ≤ l6
        · rw [if_pos hc3] at hf
          refine zr_icge_t (tgt := 46) dX12_feed_39 (by decide) hc3 ?_
          refine zr_iload (x := l6) dX12_feed_46 rfl ?_
          refine zr_bipush (v := (12 : Int32)) dX12_feed_48 (by decide) ?_
          by_cases hc4 : (12 : Int32) ≤ l6
          · rw [if_pos hc4] at hf
            refine zr_icge_t (tgt := 57) dX12_feed_50 (by decide) hc4 ?_
            refine zr_iload (x := l6) dX12_feed_57 rfl ?_
            refine zr_bipush (v := (16 : Int32)) dX12_feed_59 (by decide) ?_
            by_cases hc5 : (16 : Int32) ≤ l6
            · rw [if_pos hc5] at hf
              refine zr_icge_t (tgt := 69) dX12_feed_61 (by decide) hc5 ?_
              refine zr_iload (x := l5) dX12_feed_69 rfl ?_
              exact s_X12_feed_71 hg N _ ih l0 l1 l2 l3 l4 l5 l6 l5 h r h' hf
            · rw [if_neg hc5] at hf
              refine zr_icge_f 69 dX12_feed_61 (by decide) hc5 ?_
              refine zr_iload (x := l4) dX12_feed_64 rfl ?_
              refine zr_goto (tgt := 71) dX12_feed_66 (by decide) ?_
              exact s_X12_feed_71 hg N _ ih l0 l1 l2 l3 l4 l5 l6 l4 h r h' hf
          · rw [if_neg hc4] at hf
            refine zr_icge_f 57 dX12_feed_50 (by decide) hc4 ?_
            refine zr_iload_n (x := l3) dX12_feed_53 rfl rfl ?_
            refine zr_goto (tgt := 71) dX12_feed_54 (by decide) ?_
            exact s_X12_feed_71 hg N _ ih l0 l1 l2 l3 l4 l5 l6 l3 h r h' hf
        · rw [if_neg hc3] at hf
          refine zr_icge_f 46 dX12_feed_39 (by decide) hc3 ?_
          refine zr_iload_n (x := l2) dX12_feed_42 rfl rfl ?_
          refine zr_goto (tgt := 71) dX12_feed_43 (by decide) ?_
          exact s_X12_feed_71 hg N _ ih l0 l1 l2 l3 l4 l5 l6 l2 h r h' hf
      · rw [if_neg hc2] at hf
        refine zr_icge_f 35 dX12_feed_28 (by decide) hc2 ?_
        refine zr_iload_n (x := l1) dX12_feed_31 rfl rfl ?_
        refine zr_goto (tgt := 71) dX12_feed_32 (by decide) ?_
        exact s_X12_feed_71 hg N _ ih l0 l1 l2 l3 l4 l5 l6 l1 h r h' hf
def f_X12_feed (N : Nat) (l0 : Nat) (l1 : Int32) (l2 : Int32) (l3 : Int32) (l4 : Int32) (l5 : Int32) (h : zH) : Option (Int32 × zH) := (zgI h 12 (some l0) 3).bind fun x1 => if (x1 + (20 : Int32)) ≤ (1000 : Int32) then f_X12_feed_18 N N l0 l1 l2 l3 l4 l5 (0 : Int32) h else some (((-1) : Int32), h)
set_option maxHeartbeats 4000000 in
set_option maxRecDepth 100000 in
theorem s_X12_feed {g : zG} (hg : g.2.1.map (fun q => q.2) = zty) {h0 : zH} (N : Nat) (l0 : Nat) (l1 : Int32) (l2 : Int32) (l3 : Int32) (l4 : Int32) (l5 : Int32) (h : zH) (r : Int32) (h' : zH) (hf : f_X12_feed N l0 l1 l2 l3 l4 l5 h = some (r, h')) : zR g jX12_feed h0 0 [some (zr (some l0)), some (zi l1), some (zi l2), some (zi l3), some (zi l4), some (zi l5), none, none] [] h (some (zi r)) h' := by
  unfold f_X12_feed at hf
  refine zr_aload_n (v := .inl (some l0)) dX12_feed_0 rfl rfl ?_
  revert hf; refine zbi (fun x1 e_x1 hf => ?_)
  refine zq_getI kg_513 dX12_feed_1 e_x1 ?_
  refine zr_bipush (v := (20 : Int32)) dX12_feed_4 (by decide) ?_
  refine zr_iadd dX12_feed_6 ?_
  refine zr_sipush (v := (1000 : Int32)) dX12_feed_7 (by decide) ?_
  by_cases hc1 : (x1 + (20 : Int32)) ≤ (1000 : Int32)
  · rw [if_pos hc1] at hf
    refine zr_icle_t (tgt := 15) dX12_feed_10 (by decide) hc1 ?_
    refine zr_iconst (v := (0 : Int32)) dX12_feed_15 (by decide) ?_
    refine zq_istore (x := (0 : Int32)) (L' := [some (zr (some l0)), some (zi l1), some (zi l2), some (zi l3), some (zi l4), some (zi l5), some (zi (0 : Int32)), none]) dX12_feed_16 (by decide) rfl ?_
    exact s_X12_feed_18 hg N N l0 l1 l2 l3 l4 l5 (0 : Int32) h r h' hf
  · rw [if_neg hc1] at hf
    refine zr_icle_f 15 dX12_feed_10 (by decide) hc1 ?_
    refine zr_iconst (v := ((-1) : Int32)) dX12_feed_13 (by decide) ?_
    cases hf
    exact zr_ret _ rfl dX12_feed_14
theorem c_X12_feed {g : zG} (hg : g.2.1.map (fun q => q.2) = zty) {N : Nat} {l0 : Nat} {l1 : Int32} {l2 : Int32} {l3 : Int32} {l4 : Int32} {l5 : Int32} {h : zH} {r : Int32} {h' : zH} (hf : f_X12_feed N l0 l1 l2 l3 l4 l5 h = some (r, h')) : zCa g jX12_feed [zr (some l0), zi l1, zi l2, zi l3, zi l4, zi l5] h (some (zi r)) h' :=
  zCa.of hg (by decide +kernel) (Nat.le_of_ble_eq_true rfl) (s_X12_feed hg N l0 l1 l2 l3 l4 l5 h r h' hf)
theorem dX12_end_0 : decode cX12_end 0 = .ok (.iload_n 1, 1) := by decide +kernel
theorem dX12_end_1 : decode cX12_end 1 = .ok (.ifCond .lt 11, 3) := by decide +kernel
theorem dX12_end_4 : decode cX12_end 4 = .ok (.iload_n 1, 1) := by decide +kernel
theorem dX12_end_5 : decode cX12_end 5 = .ok (.aload_n 0, 1) := by decide +kernel
theorem dX12_end_6 : decode cX12_end 6 = .ok (.getfield 74, 3) := by decide +kernel
theorem dX12_end_9 : decode cX12_end 9 = .ok (.if_icmp .le 5, 3) := by decide +kernel
theorem dX12_end_12 : decode cX12_end 12 = .ok (.iconst 0, 1) := by decide +kernel
theorem dX12_end_13 : decode cX12_end 13 = .ok (.ireturn, 1) := by decide +kernel
theorem dX12_end_14 : decode cX12_end 14 = .ok (.aload_n 0, 1) := by decide +kernel
theorem dX12_end_15 : decode cX12_end 15 = .ok (.iload_n 1, 1) := by decide +kernel
theorem dX12_end_16 : decode cX12_end 16 = .ok (.putfield 74, 3) := by decide +kernel
theorem dX12_end_19 : decode cX12_end 19 = .ok (.iconst 1, 1) := by decide +kernel
theorem dX12_end_20 : decode cX12_end 20 = .ok (.ireturn, 1) := by decide +kernel
def f_X12_end (N : Nat) (l0 : Nat) (l1 : Int32) (h : zH) : Option (Int32 × zH) := if l1 < 0 then some ((0 : Int32), h) else (zgI h 12 (some l0) 3).bind fun x1 => if l1 ≤ x1 then (zpu h 12 (some l0) 3 (zi l1)).bind fun h1 => some ((1 : Int32), h1) else some ((0 : Int32), h)
set_option maxHeartbeats 4000000 in
set_option maxRecDepth 100000 in
theorem s_X12_end {g : zG} (hg : g.2.1.map (fun q => q.2) = zty) {h0 : zH} (N : Nat) (l0 : Nat) (l1 : Int32) (h : zH) (r : Int32) (h' : zH) (hf : f_X12_end N l0 l1 h = some (r, h')) : zR g jX12_end h0 0 [some (zr (some l0)), some (zi l1)] [] h (some (zi r)) h' := by
  unfold f_X12_end at hf
  refine zr_iload_n (x := l1) dX12_end_0 rfl rfl ?_
  by_cases hc1 : l1 < 0
  · rw [if_pos hc1] at hf
    refine zr_iflt_t (tgt := 12) dX12_end_1 (by decide) hc1 ?_
    refine zr_iconst (v := (0 : Int32)) dX12_end_12 (by decide) ?_
    cases hf
    exact zr_ret _ rfl dX12_end_13
  · rw [if_neg hc1] at hf
    refine zr_iflt_f 12 dX12_end_1 (by decide) hc1 ?_
    refine zr_iload_n (x := l1) dX12_end_4 rfl rfl ?_
    refine zr_aload_n (v := .inl (some l0)) dX12_end_5 rfl rfl ?_
    revert hf; refine zbi (fun x1 e_x1 hf => ?_)
    refine zq_getI kg_513 dX12_end_6 e_x1 ?_
    by_cases hc2 : l1 ≤ x1
    · rw [if_pos hc2] at hf
      refine zr_icle_t (tgt := 14) dX12_end_9 (by decide) hc2 ?_
      refine zr_aload_n (v := .inl (some l0)) dX12_end_14 rfl rfl ?_
      refine zr_iload_n (x := l1) dX12_end_15 rfl rfl ?_
      revert hf; refine zbi (fun h1 e_h1 hf => ?_)
      refine zq_put (kp_514 _) dX12_end_16 (zn_i _) e_h1 ?_
      refine zr_iconst (v := (1 : Int32)) dX12_end_19 (by decide) ?_
      cases hf
      exact zr_ret _ rfl dX12_end_20
    · rw [if_neg hc2] at hf
      refine zr_icle_f 14 dX12_end_9 (by decide) hc2 ?_
      refine zr_iconst (v := (0 : Int32)) dX12_end_12 (by decide) ?_
      cases hf
      exact zr_ret _ rfl dX12_end_13
theorem c_X12_end {g : zG} (hg : g.2.1.map (fun q => q.2) = zty) {N : Nat} {l0 : Nat} {l1 : Int32} {h : zH} {r : Int32} {h' : zH} (hf : f_X12_end N l0 l1 h = some (r, h')) : zCa g jX12_end [zr (some l0), zi l1] h (some (zi r)) h' :=
  zCa.of hg (by decide +kernel) (Nat.le_of_ble_eq_true rfl) (s_X12_end hg N l0 l1 h r h' hf)
theorem dX12_fail_0 : decode cX12_fail 0 = .ok (.aload_n 0, 1) := by decide +kernel
theorem dX12_fail_1 : decode cX12_fail 1 = .ok (.getfield 77, 3) := by decide +kernel
theorem dX12_fail_4 : decode cX12_fail 4 = .ok (.ifCond .eq 4, 3) := by decide +kernel
theorem dX12_fail_7 : decode cX12_fail 7 = .ok (.return_, 1) := by decide +kernel
theorem dX12_fail_8 : decode cX12_fail 8 = .ok (.aload_n 0, 1) := by decide +kernel
theorem dX12_fail_9 : decode cX12_fail 9 = .ok (.iload_n 1, 1) := by decide +kernel
theorem dX12_fail_10 : decode cX12_fail 10 = .ok (.putfield 77, 3) := by decide +kernel
theorem dX12_fail_13 : decode cX12_fail 13 = .ok (.aload_n 0, 1) := by decide +kernel
theorem dX12_fail_14 : decode cX12_fail 14 = .ok (.iload_n 2, 1) := by decide +kernel
theorem dX12_fail_15 : decode cX12_fail 15 = .ok (.putfield 80, 3) := by decide +kernel
theorem dX12_fail_18 : decode cX12_fail 18 = .ok (.return_, 1) := by decide +kernel
def f_X12_fail (N : Nat) (l0 : Nat) (l1 : Int32) (l2 : Int32) (h : zH) : Option zH := (zgI h 12 (some l0) 9).bind fun x1 => if x1 = 0 then (zpu h 12 (some l0) 9 (zi l1)).bind fun h1 => (zpu h1 12 (some l0) 10 (zi l2)).bind fun h2 => some h2 else some h
set_option maxHeartbeats 4000000 in
set_option maxRecDepth 100000 in
theorem s_X12_fail {g : zG} (hg : g.2.1.map (fun q => q.2) = zty) {h0 : zH} (N : Nat) (l0 : Nat) (l1 : Int32) (l2 : Int32) (h : zH) (h' : zH) (hf : f_X12_fail N l0 l1 l2 h = some h') : zR g jX12_fail h0 0 [some (zr (some l0)), some (zi l1), some (zi l2)] [] h none h' := by
  unfold f_X12_fail at hf
  refine zr_aload_n (v := .inl (some l0)) dX12_fail_0 rfl rfl ?_
  revert hf; refine zbi (fun x1 e_x1 hf => ?_)
  refine zq_getI kg_515 dX12_fail_1 e_x1 ?_
  by_cases hc1 : x1 = 0
  · rw [if_pos hc1] at hf
    refine zr_ifeq_t (tgt := 8) dX12_fail_4 (by decide) hc1 ?_
    refine zr_aload_n (v := .inl (some l0)) dX12_fail_8 rfl rfl ?_
    refine zr_iload_n (x := l1) dX12_fail_9 rfl rfl ?_
    revert hf; refine zbi (fun h1 e_h1 hf => ?_)
    refine zq_put (kp_516 _) dX12_fail_10 (zn_i _) e_h1 ?_
    refine zr_aload_n (v := .inl (some l0)) dX12_fail_13 rfl rfl ?_
    refine zr_iload_n (x := l2) dX12_fail_14 rfl rfl ?_
    revert hf; refine zbi (fun h2 e_h2 hf => ?_)
    refine zq_put (kp_517 _) dX12_fail_15 (zn_i _) e_h2 ?_
    cases hf
    exact zr_ret none trivial dX12_fail_18
  · rw [if_neg hc1] at hf
    refine zr_ifeq_f 8 dX12_fail_4 (by decide) hc1 ?_
    cases hf
    exact zr_ret none trivial dX12_fail_7
theorem c_X12_fail {g : zG} (hg : g.2.1.map (fun q => q.2) = zty) {N : Nat} {l0 : Nat} {l1 : Int32} {l2 : Int32} {h : zH} {h' : zH} (hf : f_X12_fail N l0 l1 l2 h = some h') : zCa g jX12_fail [zr (some l0), zi l1, zi l2] h none h' :=
  zCa.of hg (by decide +kernel) (Nat.le_of_ble_eq_true rfl) (s_X12_fail hg N l0 l1 l2 h h' hf)
theorem dX12_isLetter_0 : decode cX12_isLetter 0 = .ok (.iload_n 0, 1) := by decide +kernel
theorem dX12_isLetter_1 : decode cX12_isLetter 1 = .ok (.bipush 97, 2) := by decide +kernel
theorem dX12_isLetter_3 : decode cX12_isLetter 3 = .ok (.if_icmp .lt 13, 3) := by decide +kernel
theorem dX12_isLetter_6 : decode cX12_isLetter 6 = .ok (.iload_n 0, 1) := by decide +kernel
theorem dX12_isLetter_7 : decode cX12_isLetter 7 = .ok (.bipush 122, 2) := by decide +kernel
theorem dX12_isLetter_9 : decode cX12_isLetter 9 = .ok (.if_icmp .gt 7, 3) := by decide +kernel
theorem dX12_isLetter_12 : decode cX12_isLetter 12 = .ok (.iconst 1, 1) := by decide +kernel
theorem dX12_isLetter_13 : decode cX12_isLetter 13 = .ok (.goto 4, 3) := by decide +kernel
theorem dX12_isLetter_16 : decode cX12_isLetter 16 = .ok (.iconst 0, 1) := by decide +kernel
theorem dX12_isLetter_17 : decode cX12_isLetter 17 = .ok (.ireturn, 1) := by decide +kernel
def f_X12_isLetter (N : Nat) (l0 : Int32) (h : zH) : Option Int32 := if l0 < (97 : Int32) then some (0 : Int32) else if (122 : Int32) < l0 then some (0 : Int32) else some (1 : Int32)
set_option maxHeartbeats 4000000 in
set_option maxRecDepth 100000 in
theorem s_X12_isLetter {g : zG} (hg : g.2.1.map (fun q => q.2) = zty) {h0 : zH} (N : Nat) (l0 : Int32) (h : zH) (r : Int32) (hf : f_X12_isLetter N l0 h = some r) : zR g jX12_isLetter h0 0 [some (zi l0)] [] h (some (zi r)) h := by
  unfold f_X12_isLetter at hf
  refine zr_iload_n (x := l0) dX12_isLetter_0 rfl rfl ?_
  refine zr_bipush (v := (97 : Int32)) dX12_isLetter_1 (by decide) ?_
  by_cases hc1 : l0 < (97 : Int32)
  · rw [if_pos hc1] at hf
    refine zr_iclt_t (tgt := 16) dX12_isLetter_3 (by decide) hc1 ?_
    refine zr_iconst (v := (0 : Int32)) dX12_isLetter_16 (by decide) ?_
    cases hf
    exact zr_ret _ rfl dX12_isLetter_17
  · rw [if_neg hc1] at hf
    refine zr_iclt_f 16 dX12_isLetter_3 (by decide) hc1 ?_
    refine zr_iload_n (x := l0) dX12_isLetter_6 rfl rfl ?_
    refine zr_bipush (v := (122 : Int32)) dX12_isLetter_7 (by decide) ?_
    by_cases hc2 : (122 : Int32) < l0
    · rw [if_pos hc2] at hf
      refine zr_icgt_t (tgt := 16) dX12_isLetter_9 (by decide) hc2 ?_
      refine zr_iconst (v := (0 : Int32)) dX12_isLetter_16 (by decide) ?_
      cases hf
      exact zr_ret _ rfl dX12_isLetter_17
    · rw [if_neg hc2] at hf
      refine zr_icgt_f 16 dX12_isLetter_9 (by decide) hc2 ?_
      refine zr_iconst (v := (1 : Int32)) dX12_isLetter_12 (by decide) ?_
      refine zr_goto (tgt := 17) dX12_isLetter_13 (by decide) ?_
      cases hf
      exact zr_ret _ rfl dX12_isLetter_17
theorem c_X12_isLetter {g : zG} (hg : g.2.1.map (fun q => q.2) = zty) {N : Nat} {l0 : Int32} {h : zH} {r : Int32} (hf : f_X12_isLetter N l0 h = some r) : zCa g jX12_isLetter [zi l0] h (some (zi r)) h :=
  zCa.of hg (by decide +kernel) (Nat.le_of_ble_eq_true rfl) (s_X12_isLetter hg N l0 h r hf)
theorem dX12_isDigit_0 : decode cX12_isDigit 0 = .ok (.iload_n 0, 1) := by decide +kernel
theorem dX12_isDigit_1 : decode cX12_isDigit 1 = .ok (.bipush 48, 2) := by decide +kernel
theorem dX12_isDigit_3 : decode cX12_isDigit 3 = .ok (.if_icmp .lt 13, 3) := by decide +kernel
theorem dX12_isDigit_6 : decode cX12_isDigit 6 = .ok (.iload_n 0, 1) := by decide +kernel
theorem dX12_isDigit_7 : decode cX12_isDigit 7 = .ok (.bipush 57, 2) := by decide +kernel
theorem dX12_isDigit_9 : decode cX12_isDigit 9 = .ok (.if_icmp .gt 7, 3) := by decide +kernel
theorem dX12_isDigit_12 : decode cX12_isDigit 12 = .ok (.iconst 1, 1) := by decide +kernel
theorem dX12_isDigit_13 : decode cX12_isDigit 13 = .ok (.goto 4, 3) := by decide +kernel
theorem dX12_isDigit_16 : decode cX12_isDigit 16 = .ok (.iconst 0, 1) := by decide +kernel
theorem dX12_isDigit_17 : decode cX12_isDigit 17 = .ok (.ireturn, 1) := by decide +kernel
def f_X12_isDigit (N : Nat) (l0 : Int32) (h : zH) : Option Int32 := if l0 < (48 : Int32) then some (0 : Int32) else if (57 : Int32) < l0 then some (0 : Int32) else some (1 : Int32)
set_option maxHeartbeats 4000000 in
set_option maxRecDepth 100000 in
theorem s_X12_isDigit {g : zG} (hg : g.2.1.map (fun q => q.2) = zty) {h0 : zH} (N : Nat) (l0 : Int32) (h : zH) (r : Int32) (hf : f_X12_isDigit N l0 h = some r) : zR g jX12_isDigit h0 0 [some (zi l0)] [] h (some (zi r)) h := by
  unfold f_X12_isDigit at hf
  refine zr_iload_n (x := l0) dX12_isDigit_0 rfl rfl ?_
  refine zr_bipush (v := (48 : Int32)) dX12_isDigit_1 (by decide) ?_
  by_cases hc1 : l0 < (48 : Int32)
  · rw [if_pos hc1] at hf
    refine zr_iclt_t (tgt := 16) dX12_isDigit_3 (by decide) hc1 ?_
    refine zr_iconst (v := (0 : Int32)) dX12_isDigit_16 (by decide) ?_
    cases hf
    exact zr_ret _ rfl dX12_isDigit_17
  · rw [if_neg hc1] at hf
    refine zr_iclt_f 16 dX12_isDigit_3 (by decide) hc1 ?_
    refine zr_iload_n (x := l0) dX12_isDigit_6 rfl rfl ?_
    refine zr_bipush (v := (57 : Int32)) dX12_isDigit_7 (by decide) ?_
    by_cases hc2 : (57 : Int32) < l0
    · rw [if_pos hc2] at hf
      refine zr_icgt_t (tgt := 16) dX12_isDigit_9 (by decide) hc2 ?_
      refine zr_iconst (v := (0 : Int32)) dX12_isDigit_16 (by decide) ?_
      cases hf
      exact zr_ret _ rfl dX12_isDigit_17
    · rw [if_neg hc2] at hf
      refine zr_icgt_f 16 dX12_isDigit_9 (by decide) hc2 ?_
      refine zr_iconst (v := (1 : Int32)) dX12_isDigit_12 (by decide) ?_
      refine zr_goto (tgt := 17) dX12_isDigit_13 (by decide) ?_
      cases hf
      exact zr_ret _ rfl dX12_isDigit_17
theorem c_X12_isDigit {g : zG} (hg : g.2.1.map (fun q => q.2) = zty) {N : Nat} {l0 : Int32} {h : zH} {r : Int32} (hf : f_X12_isDigit N l0 h = some r) : zCa g jX12_isDigit [zi l0] h (some (zi r)) h :=
  zCa.of hg (by decide +kernel) (Nat.le_of_ble_eq_true rfl) (s_X12_isDigit hg N l0 h r hf)
theorem dX12_next_0 : decode cX12_next 0 = .ok (.aload_n 0, 1) := by decide +kernel
theorem dX12_next_1 : decode cX12_next 1 = .ok (.getfield 83, 3) := by decide +kernel
theorem dX12_next_4 : decode cX12_next 4 = .ok (.aload_n 0, 1) := by decide +kernel
theorem dX12_next_5 : decode cX12_next 5 = .ok (.getfield 86, 3) := by decide +kernel
theorem dX12_next_8 : decode cX12_next 8 = .ok (.if_icmp .ge 44, 3) := by decide +kernel
theorem dX12_next_11 : decode cX12_next 11 = .ok (.aload_n 0, 1) := by decide +kernel
theorem dX12_next_12 : decode cX12_next 12 = .ok (.getfield 14, 3) := by decide +kernel
theorem dX12_next_15 : decode cX12_next 15 = .ok (.aload_n 0, 1) := by decide +kernel
theorem dX12_next_16 : decode cX12_next 16 = .ok (.getfield 83, 3) := by decide +kernel
theorem dX12_next_19 : decode cX12_next 19 = .ok (.iaload, 1) := by decide +kernel
theorem dX12_next_20 : decode cX12_next 20 = .ok (.bipush 10, 2) := by decide +kernel
theorem dX12_next_22 : decode cX12_next 22 = .ok (.if_icmp .eq 17, 3) := by decide +kernel
theorem dX12_next_25 : decode cX12_next 25 = .ok (.aload_n 0, 1) := by decide +kernel
theorem dX12_next_26 : decode cX12_next 26 = .ok (.getfield 14, 3) := by decide +kernel
theorem dX12_next_29 : decode cX12_next 29 = .ok (.aload_n 0, 1) := by decide +kernel
theorem dX12_next_30 : decode cX12_next 30 = .ok (.getfield 83, 3) := by decide +kernel
theorem dX12_next_33 : decode cX12_next 33 = .ok (.iaload, 1) := by decide +kernel
theorem dX12_next_34 : decode cX12_next 34 = .ok (.bipush 32, 2) := by decide +kernel
theorem dX12_next_36 : decode cX12_next 36 = .ok (.if_icmp .ne 16, 3) := by decide +kernel
theorem dX12_next_39 : decode cX12_next 39 = .ok (.aload_n 0, 1) := by decide +kernel
theorem dX12_next_40 : decode cX12_next 40 = .ok (.dup, 1) := by decide +kernel
theorem dX12_next_41 : decode cX12_next 41 = .ok (.getfield 83, 3) := by decide +kernel
theorem dX12_next_44 : decode cX12_next 44 = .ok (.iconst 1, 1) := by decide +kernel
theorem dX12_next_45 : decode cX12_next 45 = .ok (.iadd, 1) := by decide +kernel
theorem dX12_next_46 : decode cX12_next 46 = .ok (.putfield 83, 3) := by decide +kernel
theorem dX12_next_49 : decode cX12_next 49 = .ok (.goto (-49), 3) := by decide +kernel
theorem dX12_next_52 : decode cX12_next 52 = .ok (.aload_n 0, 1) := by decide +kernel
theorem dX12_next_53 : decode cX12_next 53 = .ok (.aload_n 0, 1) := by decide +kernel
theorem dX12_next_54 : decode cX12_next 54 = .ok (.getfield 83, 3) := by decide +kernel
theorem dX12_next_57 : decode cX12_next 57 = .ok (.putfield 89, 3) := by decide +kernel
theorem dX12_next_60 : decode cX12_next 60 = .ok (.aload_n 0, 1) := by decide +kernel
theorem dX12_next_61 : decode cX12_next 61 = .ok (.aload_n 0, 1) := by decide +kernel
theorem dX12_next_62 : decode cX12_next 62 = .ok (.getfield 83, 3) := by decide +kernel
theorem dX12_next_65 : decode cX12_next 65 = .ok (.aload_n 0, 1) := by decide +kernel
theorem dX12_next_66 : decode cX12_next 66 = .ok (.getfield 86, 3) := by decide +kernel
theorem dX12_next_69 : decode cX12_next 69 = .ok (.if_icmp .ne 7, 3) := by decide +kernel
theorem dX12_next_72 : decode cX12_next 72 = .ok (.iconst 0, 1) := by decide +kernel
theorem dX12_next_73 : decode cX12_next 73 = .ok (.goto 82, 3) := by decide +kernel
theorem dX12_next_76 : decode cX12_next 76 = .ok (.aload_n 0, 1) := by decide +kernel
theorem dX12_next_77 : decode cX12_next 77 = .ok (.getfield 14, 3) := by decide +kernel
theorem dX12_next_80 : decode cX12_next 80 = .ok (.aload_n 0, 1) := by decide +kernel
theorem dX12_next_81 : decode cX12_next 81 = .ok (.getfield 83, 3) := by decide +kernel
theorem dX12_next_84 : decode cX12_next 84 = .ok (.iaload, 1) := by decide +kernel
theorem dX12_next_85 : decode cX12_next 85 = .ok (.invokestatic 92, 3) := by decide +kernel
theorem dX12_next_88 : decode cX12_next 88 = .ok (.ifCond .eq 7, 3) := by decide +kernel
theorem dX12_next_91 : decode cX12_next 91 = .ok (.iconst 1, 1) := by decide +kernel
theorem dX12_next_92 : decode cX12_next 92 = .ok (.goto 63, 3) := by decide +kernel
theorem dX12_next_95 : decode cX12_next 95 = .ok (.aload_n 0, 1) := by decide +kernel
theorem dX12_next_96 : decode cX12_next 96 = .ok (.getfield 14, 3) := by decide +kernel
theorem dX12_next_99 : decode cX12_next 99 = .ok (.aload_n 0, 1) := by decide +kernel
theorem dX12_next_100 : decode cX12_next 100 = .ok (.getfield 83, 3) := by decide +kernel
theorem dX12_next_103 : decode cX12_next 103 = .ok (.iaload, 1) := by decide +kernel
theorem dX12_next_104 : decode cX12_next 104 = .ok (.invokestatic 96, 3) := by decide +kernel
theorem dX12_next_107 : decode cX12_next 107 = .ok (.ifCond .eq 7, 3) := by decide +kernel
theorem dX12_next_110 : decode cX12_next 110 = .ok (.iconst 2, 1) := by decide +kernel
theorem dX12_next_111 : decode cX12_next 111 = .ok (.goto 44, 3) := by decide +kernel
theorem dX12_next_114 : decode cX12_next 114 = .ok (.aload_n 0, 1) := by decide +kernel
theorem dX12_next_115 : decode cX12_next 115 = .ok (.getfield 14, 3) := by decide +kernel
theorem dX12_next_118 : decode cX12_next 118 = .ok (.aload_n 0, 1) := by decide +kernel
theorem dX12_next_119 : decode cX12_next 119 = .ok (.getfield 83, 3) := by decide +kernel
theorem dX12_next_122 : decode cX12_next 122 = .ok (.iaload, 1) := by decide +kernel
theorem dX12_next_123 : decode cX12_next 123 = .ok (.bipush 58, 2) := by decide +kernel
theorem dX12_next_125 : decode cX12_next 125 = .ok (.if_icmp .eq 17, 3) := by decide +kernel
theorem dX12_next_128 : decode cX12_next 128 = .ok (.aload_n 0, 1) := by decide +kernel
theorem dX12_next_129 : decode cX12_next 129 = .ok (.getfield 14, 3) := by decide +kernel
theorem dX12_next_132 : decode cX12_next 132 = .ok (.aload_n 0, 1) := by decide +kernel
theorem dX12_next_133 : decode cX12_next 133 = .ok (.getfield 83, 3) := by decide +kernel
theorem dX12_next_136 : decode cX12_next 136 = .ok (.iaload, 1) := by decide +kernel
theorem dX12_next_137 : decode cX12_next 137 = .ok (.bipush 59, 2) := by decide +kernel
theorem dX12_next_139 : decode cX12_next 139 = .ok (.if_icmp .ne 15, 3) := by decide +kernel
theorem dX12_next_142 : decode cX12_next 142 = .ok (.aload_n 0, 1) := by decide +kernel
theorem dX12_next_143 : decode cX12_next 143 = .ok (.getfield 14, 3) := by decide +kernel
theorem dX12_next_146 : decode cX12_next 146 = .ok (.aload_n 0, 1) := by decide +kernel
theorem dX12_next_147 : decode cX12_next 147 = .ok (.getfield 83, 3) := by decide +kernel
theorem dX12_next_150 : decode cX12_next 150 = .ok (.iaload, 1) := by decide +kernel
theorem dX12_next_151 : decode cX12_next 151 = .ok (.goto 4, 3) := by decide +kernel
theorem dX12_next_154 : decode cX12_next 154 = .ok (.iconst (-1), 1) := by decide +kernel
theorem dX12_next_155 : decode cX12_next 155 = .ok (.putfield 99, 3) := by decide +kernel
theorem dX12_next_158 : decode cX12_next 158 = .ok (.aload_n 0, 1) := by decide +kernel
theorem dX12_next_159 : decode cX12_next 159 = .ok (.iconst 0, 1) := by decide +kernel
theorem dX12_next_160 : decode cX12_next 160 = .ok (.putfield 102, 3) := by decide +kernel
theorem dX12_next_163 : decode cX12_next 163 = .ok (.aload_n 0, 1) := by decide +kernel
theorem dX12_next_164 : decode cX12_next 164 = .ok (.getfield 99, 3) := by decide +kernel
theorem dX12_next_167 : decode cX12_next 167 = .ok (.iconst 1, 1) := by decide +kernel
theorem dX12_next_168 : decode cX12_next 168 = .ok (.if_icmp .ne 42, 3) := by decide +kernel
theorem dX12_next_171 : decode cX12_next 171 = .ok (.aload_n 0, 1) := by decide +kernel
theorem dX12_next_172 : decode cX12_next 172 = .ok (.getfield 83, 3) := by decide +kernel
theorem dX12_next_175 : decode cX12_next 175 = .ok (.aload_n 0, 1) := by decide +kernel
theorem dX12_next_176 : decode cX12_next 176 = .ok (.getfield 86, 3) := by decide +kernel
theorem dX12_next_179 : decode cX12_next 179 = .ok (.if_icmp .ge 139, 3) := by decide +kernel
theorem dX12_next_182 : decode cX12_next 182 = .ok (.aload_n 0, 1) := by decide +kernel
theorem dX12_next_183 : decode cX12_next 183 = .ok (.getfield 14, 3) := by decide +kernel
theorem dX12_next_186 : decode cX12_next 186 = .ok (.aload_n 0, 1) := by decide +kernel
theorem dX12_next_187 : decode cX12_next 187 = .ok (.getfield 83, 3) := by decide +kernel
theorem dX12_next_190 : decode cX12_next 190 = .ok (.iaload, 1) := by decide +kernel
theorem dX12_next_191 : decode cX12_next 191 = .ok (.invokestatic 92, 3) := by decide +kernel
theorem dX12_next_194 : decode cX12_next 194 = .ok (.ifCond .eq 124, 3) := by decide +kernel
theorem dX12_next_197 : decode cX12_next 197 = .ok (.aload_n 0, 1) := by decide +kernel
theorem dX12_next_198 : decode cX12_next 198 = .ok (.dup, 1) := by decide +kernel
theorem dX12_next_199 : decode cX12_next 199 = .ok (.getfield 83, 3) := by decide +kernel
theorem dX12_next_202 : decode cX12_next 202 = .ok (.iconst 1, 1) := by decide +kernel
theorem dX12_next_203 : decode cX12_next 203 = .ok (.iadd, 1) := by decide +kernel
theorem dX12_next_204 : decode cX12_next 204 = .ok (.putfield 83, 3) := by decide +kernel
theorem dX12_next_207 : decode cX12_next 207 = .ok (.goto (-36), 3) := by decide +kernel
theorem dX12_next_210 : decode cX12_next 210 = .ok (.aload_n 0, 1) := by decide +kernel
theorem dX12_next_211 : decode cX12_next 211 = .ok (.getfield 99, 3) := by decide +kernel
theorem dX12_next_214 : decode cX12_next 214 = .ok (.iconst 2, 1) := by decide +kernel
theorem dX12_next_215 : decode cX12_next 215 = .ok (.if_icmp .ne 86, 3) := by decide +kernel
theorem dX12_next_218 : decode cX12_next 218 = .ok (.aload_n 0, 1) := by decide +kernel
theorem dX12_next_219 : decode cX12_next 219 = .ok (.getfield 83, 3) := by decide +kernel
theorem dX12_next_222 : decode cX12_next 222 = .ok (.aload_n 0, 1) := by decide +kernel
theorem dX12_next_223 : decode cX12_next 223 = .ok (.getfield 86, 3) := by decide +kernel
theorem dX12_next_226 : decode cX12_next 226 = .ok (.if_icmp .ge 92, 3) := by decide +kernel
theorem dX12_next_229 : decode cX12_next 229 = .ok (.aload_n 0, 1) := by decide +kernel
theorem dX12_next_230 : decode cX12_next 230 = .ok (.getfield 14, 3) := by decide +kernel
theorem dX12_next_233 : decode cX12_next 233 = .ok (.aload_n 0, 1) := by decide +kernel
theorem dX12_next_234 : decode cX12_next 234 = .ok (.getfield 83, 3) := by decide +kernel
theorem dX12_next_237 : decode cX12_next 237 = .ok (.iaload, 1) := by decide +kernel
theorem dX12_next_238 : decode cX12_next 238 = .ok (.invokestatic 96, 3) := by decide +kernel
theorem dX12_next_241 : decode cX12_next 241 = .ok (.ifCond .eq 77, 3) := by decide +kernel
theorem dX12_next_244 : decode cX12_next 244 = .ok (.aload_n 0, 1) := by decide +kernel
theorem dX12_next_245 : decode cX12_next 245 = .ok (.getfield 83, 3) := by decide +kernel
theorem dX12_next_248 : decode cX12_next 248 = .ok (.aload_n 0, 1) := by decide +kernel
theorem dX12_next_249 : decode cX12_next 249 = .ok (.getfield 89, 3) := by decide +kernel
theorem dX12_next_252 : decode cX12_next 252 = .ok (.isub, 1) := by decide +kernel
theorem dX12_next_253 : decode cX12_next 253 = .ok (.bipush 6, 2) := by decide +kernel
theorem dX12_next_255 : decode cX12_next 255 = .ok (.if_icmp .ne 9, 3) := by decide +kernel
theorem dX12_next_258 : decode cX12_next 258 = .ok (.aload_n 0, 1) := by decide +kernel
theorem dX12_next_259 : decode cX12_next 259 = .ok (.iconst 3, 1) := by decide +kernel
theorem dX12_next_260 : decode cX12_next 260 = .ok (.putfield 99, 3) := by decide +kernel
theorem dX12_next_263 : decode cX12_next 263 = .ok (.return_, 1) := by decide +kernel
theorem dX12_next_264 : decode cX12_next 264 = .ok (.aload_n 0, 1) := by decide +kernel
theorem dX12_next_265 : decode cX12_next 265 = .ok (.bipush 10, 2) := by decide +kernel
theorem dX12_next_267 : decode cX12_next 267 = .ok (.aload_n 0, 1) := by decide +kernel
theorem dX12_next_268 : decode cX12_next 268 = .ok (.getfield 102, 3) := by decide +kernel
theorem dX12_next_271 : decode cX12_next 271 = .ok (.imul, 1) := by decide +kernel
theorem dX12_next_272 : decode cX12_next 272 = .ok (.aload_n 0, 1) := by decide +kernel
theorem dX12_next_273 : decode cX12_next 273 = .ok (.getfield 14, 3) := by decide +kernel
theorem dX12_next_276 : decode cX12_next 276 = .ok (.aload_n 0, 1) := by decide +kernel
theorem dX12_next_277 : decode cX12_next 277 = .ok (.getfield 83, 3) := by decide +kernel
theorem dX12_next_280 : decode cX12_next 280 = .ok (.iaload, 1) := by decide +kernel
theorem dX12_next_281 : decode cX12_next 281 = .ok (.iadd, 1) := by decide +kernel
theorem dX12_next_282 : decode cX12_next 282 = .ok (.bipush 48, 2) := by decide +kernel
theorem dX12_next_284 : decode cX12_next 284 = .ok (.isub, 1) := by decide +kernel
theorem dX12_next_285 : decode cX12_next 285 = .ok (.putfield 102, 3) := by decide +kernel
theorem dX12_next_288 : decode cX12_next 288 = .ok (.aload_n 0, 1) := by decide +kernel
theorem dX12_next_289 : decode cX12_next 289 = .ok (.dup, 1) := by decide +kernel
theorem dX12_next_290 : decode cX12_next 290 = .ok (.getfield 83, 3) := by decide +kernel
theorem dX12_next_293 : decode cX12_next 293 = .ok (.iconst 1, 1) := by decide +kernel
theorem dX12_next_294 : decode cX12_next 294 = .ok (.iadd, 1) := by decide +kernel
theorem dX12_next_295 : decode cX12_next 295 = .ok (.putfield 83, 3) := by decide +kernel
theorem dX12_next_298 : decode cX12_next 298 = .ok (.goto (-80), 3) := by decide +kernel
theorem dX12_next_301 : decode cX12_next 301 = .ok (.aload_n 0, 1) := by decide +kernel
theorem dX12_next_302 : decode cX12_next 302 = .ok (.getfield 99, 3) := by decide +kernel
theorem dX12_next_305 : decode cX12_next 305 = .ok (.ifCond .eq 13, 3) := by decide +kernel
theorem dX12_next_308 : decode cX12_next 308 = .ok (.aload_n 0, 1) := by decide +kernel
theorem dX12_next_309 : decode cX12_next 309 = .ok (.dup, 1) := by decide +kernel
theorem dX12_next_310 : decode cX12_next 310 = .ok (.getfield 83, 3) := by decide +kernel
theorem dX12_next_313 : decode cX12_next 313 = .ok (.iconst 1, 1) := by decide +kernel
theorem dX12_next_314 : decode cX12_next 314 = .ok (.iadd, 1) := by decide +kernel
theorem dX12_next_315 : decode cX12_next 315 = .ok (.putfield 83, 3) := by decide +kernel
theorem dX12_next_318 : decode cX12_next 318 = .ok (.return_, 1) := by decide +kernel
def f_X12_next_39 (N : Nat) (k0 : Nat → zH → Option zH) (l0 : Nat) (h : zH) : Option zH := (zgI h 12 (some l0) 4).bind fun x1 => (zpu h 12 (some l0) 4 (zi (x1 + (1 : Int32)))).bind fun h1 => k0 l0 h1
set_option maxHeartbeats 4000000 in
set_option maxRecDepth 100000 in
theorem s_X12_next_39 {g : zG} (hg : g.2.1.map (fun q => q.2) = zty) {h0 : zH} (N : Nat) (k0 : Nat → zH → Option zH) (hk0 : ∀ (l0 : Nat) (h : zH) (h' : zH), k0 l0 h = some h' → zR g jX12_next h0 0 [some (zr (some l0))] [] h none h') (l0 : Nat) (h : zH) (h' : zH) (hf : f_X12_next_39 N k0 l0 h = some h') : zR g jX12_next h0 39 [some (zr (some l0))] [] h none h' := by
  unfold f_X12_next_39 at hf
  refine zr_aload_n (v := .inl (some l0)) dX12_next_39 rfl rfl ?_
  refine zr_dup dX12_next_40 ?_
  revert hf; refine zbi (fun x1 e_x1 hf => ?_)
  refine zq_getI kg_518 dX12_next_41 e_x1 ?_
  refine zr_iconst (v := (1 : Int32)) dX12_next_44 (by decide) ?_
  refine zr_iadd dX12_next_45 ?_
  revert hf; refine zbi (fun h1 e_h1 hf => ?_)
  refine zq_put (kp_519 _) dX12_next_46 (zn_i _) e_h1 ?_
  refine zr_goto (tgt := 0) dX12_next_49 (by decide) ?_
  exact hk0 l0 h1 h' hf
def f_X12_next_171 (N : Nat) : Nat → Nat → zH → Option zH
  | 0, _, _ => none
  | n + 1, l0, h => (zgI h 12 (some l0) 4).bind fun x1 => (zgI h 12 (some l0) 5).bind fun x2 => if x2 ≤ x1 then some h else (zgR h 12 (some l0) 2).bind fun x3 => (zgI h 12 (some l0) 4).bind fun x4 => (zld h 0 x3 x4).bind fun x5 => (f_X12_isLetter N x5 h).bind fun x6 => if x6 = 0 then some h else (zgI h 12 (some l0) 4).bind fun x7 => (zpu h 12 (some l0) 4 (zi (x7 + (1 : Int32)))).bind fun h1 => f_X12_next_171 N n l0 h1
set_option maxHeartbeats 4000000 in
set_option maxRecDepth 100000 in
theorem s_X12_next_171 {g : zG} (hg : g.2.1.map (fun q => q.2) = zty) {h0 : zH} (N : Nat) : ∀ (n : Nat) (l0 : Nat) (h : zH) (h' : zH), f_X12_next_171 N n l0 h = some h' → zR g jX12_next h0 171 [some (zr (some l0))] [] h none h' := by
  intro n
  induction n with
  | zero =>
    intro l0 h h' hf
    cases hf
  | succ n ih =>
    intro l0 h h' hf
    rw [f_X12_next_171] at hf
    refine zr_aload_n (v := .inl (some l0)) dX12_next_171 rfl rfl ?_
    revert hf; refine zbi (fun x1 e_x1 hf => ?_)
    refine zq_getI kg_518 dX12_next_172 e_x1 ?_
    refine zr_aload_n (v := .inl (some l0)) dX12_next_175 rfl rfl ?_
    revert hf; refine zbi (fun x2 e_x2 hf => ?_)
    refine zq_getI kg_520 dX12_next_176 e_x2 ?_
    by_cases hc1 : x2 ≤ x1
    · rw [if_pos hc1] at hf
      refine zr_icge_t (tgt := 318) dX12_next_179 (by decide) hc1 ?_
      cases hf
      exact zr_ret none trivial dX12_next_318
    · rw [if_neg hc1] at hf
      refine zr_icge_f 318 dX12_next_179 (by decide) hc1 ?_
      refine zr_aload_n (v := .inl (some l0)) dX12_next_182 rfl rfl ?_
      revert hf; refine zbi (fun x3 e_x3 hf => ?_)
      refine zq_getR kg_512 dX12_next_183 e_x3 ?_
      refine zr_aload_n (v := .inl (some l0)) dX12_next_186 rfl rfl ?_
      revert hf; refine zbi (fun x4 e_x4 hf => ?_)
      refine zq_getI kg_518 dX12_next_187 e_x4 ?_
      revert hf; refine zbi (fun x5 e_x5 hf => ?_)
      refine zq_iald dX12_next_190 e_x5 ?_
      revert hf; refine zbi (fun x6 e_x6 hf => ?_)
      refine zq_callS (J' := jX12_isLetter) (as := [zi x5]) (rest := []) (r1 := (some (zi x6))) kw_622 km_X12_isLetter kt_522 dX12_next_191 rfl (Nat.le_of_ble_eq_true rfl) rfl (c_X12_isLetter hg e_x6) ?_
      by_cases hc2 : x6 = 0
      · rw [if_pos hc2] at hf
        refine zr_ifeq_t (tgt := 318) dX12_next_194 (by decide) hc2 ?_
        cases hf
        exact zr_ret none trivial dX12_next_318
      · rw [if_neg hc2] at hf
        refine zr_ifeq_f 318 dX12_next_194 (by decide) hc2 ?_
        refine zr_aload_n (v := .inl (some l0)) dX12_next_197 rfl rfl ?_
        refine zr_dup dX12_next_198 ?_
        revert hf; refine zbi (fun x7 e_x7 hf => ?_)
        refine zq_getI kg_518 dX12_next_199 e_x7 ?_
        refine zr_iconst (v := (1 : Int32)) dX12_next_202 (by decide) ?_
        refine zr_iadd dX12_next_203 ?_
        revert hf; refine zbi (fun h1 e_h1 hf => ?_)
        refine zq_put (kp_519 _) dX12_next_204 (zn_i _) e_h1 ?_
        refine zr_goto (tgt := 171) dX12_next_207 (by decide) ?_
        exact ih l0 h1 h' hf
def f_X12_next_218 (N : Nat) : Nat → Nat → zH → Option zH
  | 0, _, _ => none
  | n + 1, l0, h => (zgI h 12 (some l0) 4).bind fun x1 => (zgI h 12 (some l0) 5).bind fun x2 => if x2 ≤ x1 then some h else (zgR h 12 (some l0) 2).bind fun x3 => (zgI h 12 (some l0) 4).bind fun x4 => (zld h 0 x3 x4).bind fun x5 => (f_X12_isDigit N x5 h).bind fun x6 => if x6 = 0 then some h else (zgI h 12 (some l0) 4).bind fun x7 => (zgI h 12 (some l0) 7).bind fun x8 => if (x7 - x8) = (6 : Int32) then (zpu h 12 (some l0) 6 (zi (3 : Int32))).bind fun h3 => some h3 else (zgI h 12 (some l0) 8).bind fun x9 => (zgR h 12 (some l0) 2).bind fun x10 => (zgI h 12 (some l0) 4).bind fun x11 => (zld h 0 x10 x11).bind fun x12 => (zpu h 12 (some l0) 8 (zi ((((10 : Int32) * x9) + x12) - (48 : Int32)))).bind fun h1 => (zgI h1 12 (some l0) 4).bind fun x13 => (zpu h1 12 (some l0) 4 (zi (x13 + (1 : Int32)))).bind fun h2 => f_X12_next_218 N n l0 h2
set_option maxHeartbeats 4000000 in
set_option maxRecDepth 100000 in
theorem s_X12_next_218 {g : zG} (hg : g.2.1.map (fun q => q.2) = zty) {h0 : zH} (N : Nat) : ∀ (n : Nat) (l0 : Nat) (h : zH) (h' : zH), f_X12_next_218 N n l0 h = some h' → zR g jX12_next h0 218 [some (zr (some l0))] [] h none h' := by
  intro n
  induction n with
  | zero =>
    intro l0 h h' hf
    cases hf
  | succ n ih =>
    intro l0 h h' hf
    rw [f_X12_next_218] at hf
    refine zr_aload_n (v := .inl (some l0)) dX12_next_218 rfl rfl ?_
    revert hf; refine zbi (fun x1 e_x1 hf => ?_)
    refine zq_getI kg_518 dX12_next_219 e_x1 ?_
    refine zr_aload_n (v := .inl (some l0)) dX12_next_222 rfl rfl ?_
    revert hf; refine zbi (fun x2 e_x2 hf => ?_)
    refine zq_getI kg_520 dX12_next_223 e_x2 ?_
    by_cases hc1 : x2 ≤ x1
    · rw [if_pos hc1] at hf
      refine zr_icge_t (tgt := 318) dX12_next_226 (by decide) hc1 ?_
      cases hf
      exact zr_ret none trivial dX12_next_318
    · rw [if_neg hc1] at hf
      refine zr_icge_f 318 dX12_next_226 (by decide) hc1 ?_
      refine zr_aload_n (v := .inl (some l0)) dX12_next_229 rfl rfl ?_
      revert hf; refine zbi (fun x3 e_x3 hf => ?_)
      refine zq_getR kg_512 dX12_next_230 e_x3 ?_
      refine zr_aload_n (v := .inl (some l0)) dX12_next_233 rfl rfl ?_
      revert hf; refine zbi (fun x4 e_x4 hf => ?_)
      refine zq_getI kg_518 dX12_next_234 e_x4 ?_
      revert hf; refine zbi (fun x5 e_x5 hf => ?_)
      refine zq_iald dX12_next_237 e_x5 ?_
      revert hf; refine zbi (fun x6 e_x6 hf => ?_)
      refine zq_callS (J' := jX12_isDigit) (as := [zi x5]) (rest := []) (r1 := (some (zi x6))) kw_626 km_X12_isDigit kt_524 dX12_next_238 rfl (Nat.le_of_ble_eq_true rfl) rfl (c_X12_isDigit hg e_x6) ?_
      by_cases hc2 : x6 = 0
      · rw [if_pos hc2] at hf
        refine zr_ifeq_t (tgt := 318) dX12_next_241 (by decide) hc2 ?_
        cases hf
        exact zr_ret none trivial dX12_next_318
      · rw [if_neg hc2] at hf
        refine zr_ifeq_f 318 dX12_next_241 (by decide) hc2 ?_
        refine zr_aload_n (v := .inl (some l0)) dX12_next_244 rfl rfl ?_
        revert hf; refine zbi (fun x7 e_x7 hf => ?_)
        refine zq_getI kg_518 dX12_next_245 e_x7 ?_
        refine zr_aload_n (v := .inl (some l0)) dX12_next_248 rfl rfl ?_
        revert hf; refine zbi (fun x8 e_x8 hf => ?_)
        refine zq_getI kg_525 dX12_next_249 e_x8 ?_
        refine zr_isub dX12_next_252 ?_
        refine zr_bipush (v := (6 : Int32)) dX12_next_253 (by decide) ?_
        by_cases hc3 : (x7 - x8) = (6 : Int32)
        · rw [if_pos hc3] at hf
          refine zr_icne_f 264 dX12_next_255 (by decide) hc3 ?_
          refine zr_aload_n (v := .inl (some l0)) dX12_next_258 rfl rfl ?_
          refine zr_iconst (v := (3 : Int32)) dX12_next_259 (by decide) ?_
          revert hf; refine zbi (fun h3 e_h3 hf => ?_)
          refine zq_put (kp_528 _) dX12_next_260 (zn_i _) e_h3 ?_
          cases hf
          exact zr_ret none trivial dX12_next_263
        · rw [if_neg hc3] at hf
          refine zr_icne_t (tgt := 264) dX12_next_255 (by decide) hc3 ?_
          refine zr_aload_n (v := .inl (some l0)) dX12_next_264 rfl rfl ?_
          refine zr_bipush (v := (10 : Int32)) dX12_next_265 (by decide) ?_
          refine zr_aload_n (v := .inl (some l0)) dX12_next_267 rfl rfl ?_
          revert hf; refine zbi (fun x9 e_x9 hf => ?_)
          refine zq_getI kg_526 dX12_next_268 e_x9 ?_
          refine zr_imul dX12_next_271 ?_
          refine zr_aload_n (v := .inl (some l0)) dX12_next_272 rfl rfl ?_
          revert hf; refine zbi (fun x10 e_x10 hf => ?_)
          refine zq_getR kg_512 dX12_next_273 e_x10 ?_
          refine zr_aload_n (v := .inl (some l0)) dX12_next_276 rfl rfl ?_
          revert hf; refine zbi (fun x11 e_x11 hf => ?_)
          refine zq_getI kg_518 dX12_next_277 e_x11 ?_
          revert hf; refine zbi (fun x12 e_x12 hf => ?_)
          refine zq_iald dX12_next_280 e_x12 ?_
          refine zr_iadd dX12_next_281 ?_
          refine zr_bipush (v := (48 : Int32)) dX12_next_282 (by decide) ?_
          refine zr_isub dX12_next_284 ?_
          revert hf; refine zbi (fun h1 e_h1 hf => ?_)
          refine zq_put (kp_527 _) dX12_next_285 (zn_i _) e_h1 ?_
          refine zr_aload_n (v := .inl (some l0)) dX12_next_288 rfl rfl ?_
          refine zr_dup dX12_next_289 ?_
          revert hf; refine zbi (fun x13 e_x13 hf => ?_)
          refine zq_getI kg_518 dX12_next_290 e_x13 ?_
          refine zr_iconst (v := (1 : Int32)) dX12_next_293 (by decide) ?_
          refine zr_iadd dX12_next_294 ?_
          revert hf; refine zbi (fun h2 e_h2 hf => ?_)
          refine zq_put (kp_519 _) dX12_next_295 (zn_i _) e_h2 ?_
          refine zr_goto (tgt := 218) dX12_next_298 (by decide) ?_
          exact ih l0 h2 h' hf
def f_X12_next_155 (N : Nat) (l0 : Nat) (s0 : Int32) (s1 : Nat) (h : zH) : Option zH := (zpu h 12 (some s1) 6 (zi s0)).bind fun h1 => (zpu h1 12 (some l0) 8 (zi (0 : Int32))).bind fun h2 => (zgI h2 12 (some l0) 6).bind fun x1 => if x1 = (1 : Int32) then f_X12_next_171 N N l0 h2 else (zgI h2 12 (some l0) 6).bind fun x2 => if x2 = (2 : Int32) then f_X12_next_218 N N l0 h2 else (zgI h2 12 (some l0) 6).bind fun x3 => if x3 = 0 then some h2 else (zgI h2 12 (some l0) 4).bind fun x4 => (zpu h2 12 (some l0) 4 (zi (x4 + (1 : Int32)))).bind fun h3 => some h3
set_option maxHeartbeats 4000000 in
set_option maxRecDepth 100000 in
theorem s_X12_next_155 {g : zG} (hg : g.2.1.map (fun q => q.2) = zty) {h0 : zH} (N : Nat) (l0 : Nat) (s0 : Int32) (s1 : Nat) (h : zH) (h' : zH) (hf : f_X12_next_155 N l0 s0 s1 h = some h') : zR g jX12_next h0 155 [some (zr (some l0))] [zi s0, zr (some s1)] h none h' := by
  unfold f_X12_next_155 at hf
  revert hf; refine zbi (fun h1 e_h1 hf => ?_)
  refine zq_put (kp_528 _) dX12_next_155 (zn_i _) e_h1 ?_
  refine zr_aload_n (v := .inl (some l0)) dX12_next_158 rfl rfl ?_
  refine zr_iconst (v := (0 : Int32)) dX12_next_159 (by decide) ?_
  revert hf; refine zbi (fun h2 e_h2 hf => ?_)
  refine zq_put (kp_527 _) dX12_next_160 (zn_i _) e_h2 ?_
  refine zr_aload_n (v := .inl (some l0)) dX12_next_163 rfl rfl ?_
  revert hf; refine zbi (fun x1 e_x1 hf => ?_)
  refine zq_getI kg_529 dX12_next_164 e_x1 ?_
  refine zr_iconst (v := (1 : Int32)) dX12_next_167 (by decide) ?_
  by_cases hc1 : x1 = (1 : Int32)
  · rw [if_pos hc1] at hf
    refine zr_icne_f 210 dX12_next_168 (by decide) hc1 ?_
    exact s_X12_next_171 hg N N l0 h2 h' hf
  · rw [if_neg hc1] at hf
    refine zr_icne_t (tgt := 210) dX12_next_168 (by decide) hc1 ?_
    refine zr_aload_n (v := .inl (some l0)) dX12_next_210 rfl rfl ?_
    revert hf; refine zbi (fun x2 e_x2 hf => ?_)
    refine zq_getI kg_529 dX12_next_211 e_x2 ?_
    refine zr_iconst (v := (2 : Int32)) dX12_next_214 (by decide) ?_
    by_cases hc2 : x2 = (2 : Int32)
    · rw [if_pos hc2] at hf
      refine zr_icne_f 301 dX12_next_215 (by decide) hc2 ?_
      exact s_X12_next_218 hg N N l0 h2 h' hf
    · rw [if_neg hc2] at hf
      refine zr_icne_t (tgt := 301) dX12_next_215 (by decide) hc2 ?_
      refine zr_aload_n (v := .inl (some l0)) dX12_next_301 rfl rfl ?_
      revert hf; refine zbi (fun x3 e_x3 hf => ?_)
      refine zq_getI kg_529 dX12_next_302 e_x3 ?_
      by_cases hc3 : x3 = 0
      · rw [if_pos hc3] at hf
        refine zr_ifeq_t (tgt := 318) dX12_next_305 (by decide) hc3 ?_
        cases hf
        exact zr_ret none trivial dX12_next_318
      · rw [if_neg hc3] at hf
        refine zr_ifeq_f 318 dX12_next_305 (by decide) hc3 ?_
        refine zr_aload_n (v := .inl (some l0)) dX12_next_308 rfl rfl ?_
        refine zr_dup dX12_next_309 ?_
        revert hf; refine zbi (fun x4 e_x4 hf => ?_)
        refine zq_getI kg_518 dX12_next_310 e_x4 ?_
        refine zr_iconst (v := (1 : Int32)) dX12_next_313 (by decide) ?_
        refine zr_iadd dX12_next_314 ?_
        revert hf; refine zbi (fun h3 e_h3 hf => ?_)
        refine zq_put (kp_519 _) dX12_next_315 (zn_i _) e_h3 ?_
        cases hf
        exact zr_ret none trivial dX12_next_318
def f_X12_next_142 (N : Nat) (l0 : Nat) (s0 : Nat) (h : zH) : Option zH := (zgR h 12 (some l0) 2).bind fun x1 => (zgI h 12 (some l0) 4).bind fun x2 => (zld h 0 x1 x2).bind fun x3 => f_X12_next_155 N l0 x3 s0 h
set_option maxHeartbeats 4000000 in
set_option maxRecDepth 100000 in
theorem s_X12_next_142 {g : zG} (hg : g.2.1.map (fun q => q.2) = zty) {h0 : zH} (N : Nat) (l0 : Nat) (s0 : Nat) (h : zH) (h' : zH) (hf : f_X12_next_142 N l0 s0 h = some h') : zR g jX12_next h0 142 [some (zr (some l0))] [zr (some s0)] h none h' := by
  unfold f_X12_next_142 at hf
  refine zr_aload_n (v := .inl (some l0)) dX12_next_142 rfl rfl ?_
  revert hf; refine zbi (fun x1 e_x1 hf => ?_)
  refine zq_getR kg_512 dX12_next_143 e_x1 ?_
  refine zr_aload_n (v := .inl (some l0)) dX12_next_146 rfl rfl ?_
  revert hf; refine zbi (fun x2 e_x2 hf => ?_)
  refine zq_getI kg_518 dX12_next_147 e_x2 ?_
  revert hf; refine zbi (fun x3 e_x3 hf => ?_)
  refine zq_iald dX12_next_150 e_x3 ?_
  refine zr_goto (tgt := 155) dX12_next_151 (by decide) ?_
  exact s_X12_next_155 hg N l0 x3 s0 h h' hf
def f_X12_next_52 (N : Nat) (l0 : Nat) (h : zH) : Option zH := (zgI h 12 (some l0) 4).bind fun x1 => (zpu h 12 (some l0) 7 (zi x1)).bind fun h1 => (zgI h1 12 (some l0) 4).bind fun x2 => (zgI h1 12 (some l0) 5).bind fun x3 => if x2 = x3 then f_X12_next_155 N l0 (0 : Int32) l0 h1 else (zgR h1 12 (some l0) 2).bind fun x4 => (zgI h1 12 (some l0) 4).bind fun x5 => (zld h1 0 x4 x5).bind fun x6 => (f_X12_isLetter N x6 h1).bind fun x7 => if x7 = 0 then (zgR h1 12 (some l0) 2).bind fun x8 => (zgI h1 12 (some l0) 4).bind fun x9 => (zld h1 0 x8 x9).bind fun x10 => (f_X12_isDigit N x10 h1).bind fun x11 => if x11 = 0 then (zgR h1 12 (some l0) 2).bind fun x12 => (zgI h1 12 (some l0) 4).bind fun x13 => (zld h1 0 x12 x13).bind fun x14 => if x14 = (58 : Int32) then f_X12_next_142 N l0 l0 h1 else (zgR h1 12 (some l0) 2).bind fun x15 => (zgI h1 12 (some l0) 4).bind fun x16 => (zld h1 0 x15 x16).bind fun x17 => if x17 = (59 : Int32) then f_X12_next_142 N l0 l0 h1 else f_X12_next_155 N l0 ((-1) : Int32) l0 h1 else f_X12_next_155 N l0 (2 : Int32) l0 h1 else f_X12_next_155 N l0 (1 : Int32) l0 h1
set_option maxHeartbeats 4000000 in
set_option maxRecDepth 100000 in
theorem s_X12_next_52 {g : zG} (hg : g.2.1.map (fun q => q.2) = zty) {h0 : zH} (N : Nat) (l0 : Nat) (h : zH) (h' : zH) (hf : f_X12_next_52 N l0 h = some h') : zR g jX12_next h0 52 [some (zr (some l0))] [] h none h' := by
  unfold f_X12_next_52 at hf
  refine zr_aload_n (v := .inl (some l0)) dX12_next_52 rfl rfl ?_
  refine zr_aload_n (v := .inl (some l0)) dX12_next_53 rfl rfl ?_
  revert hf; refine zbi (fun x1 e_x1 hf => ?_)
  refine zq_getI kg_518 dX12_next_54 e_x1 ?_
  revert hf; refine zbi (fun h1 e_h1 hf => ?_)
  refine zq_put (kp_530 _) dX12_next_57 (zn_i _) e_h1 ?_
  refine zr_aload_n (v := .inl (some l0)) dX12_next_60 rfl rfl ?_
  refine zr_aload_n (v := .inl (some l0)) dX12_next_61 rfl rfl ?_
  revert hf; refine zbi (fun x2 e_x2 hf => ?_)
  refine zq_getI kg_518 dX12_next_62 e_x2 ?_
  refine zr_aload_n (v := .inl (some l0)) dX12_next_65 rfl rfl ?_
  revert hf; refine zbi (fun x3 e_x3 hf => ?_)
  refine zq_getI kg_520 dX12_next_66 e_x3 ?_
  by_cases hc1 : x2 = x3
  · rw [if_pos hc1] at hf
    refine zr_icne_f 76 dX12_next_69 (by decide) hc1 ?_
    refine zr_iconst (v := (0 : Int32)) dX12_next_72 (by decide) ?_
    refine zr_goto (tgt := 155) dX12_next_73 (by decide) ?_
    exact s_X12_next_155 hg N l0 (0 : Int32) l0 h1 h' hf
  · rw [if_neg hc1] at hf
    refine zr_icne_t (tgt := 76) dX12_next_69 (by decide) hc1 ?_
    refine zr_aload_n (v := .inl (some l0)) dX12_next_76 rfl rfl ?_
    revert hf; refine zbi (fun x4 e_x4 hf => ?_)
    refine zq_getR kg_512 dX12_next_77 e_x4 ?_
    refine zr_aload_n (v := .inl (some l0)) dX12_next_80 rfl rfl ?_
    revert hf; refine zbi (fun x5 e_x5 hf => ?_)
    refine zq_getI kg_518 dX12_next_81 e_x5 ?_
    revert hf; refine zbi (fun x6 e_x6 hf => ?_)
    refine zq_iald dX12_next_84 e_x6 ?_
    revert hf; refine zbi (fun x7 e_x7 hf => ?_)
    refine zq_callS (J' := jX12_isLetter) (as := [zi x6]) (rest := [zr (some l0)]) (r1 := (some (zi x7))) kw_622 km_X12_isLetter kt_522 dX12_next_85 rfl (Nat.le_of_ble_eq_true rfl) rfl (c_X12_isLetter hg e_x7) ?_
    by_cases hc2 : x7 = 0
    · rw [if_pos hc2] at hf
      refine zr_ifeq_t (tgt := 95) dX12_next_88 (by decide) hc2 ?_
      refine zr_aload_n (v := .inl (some l0)) dX12_next_95 rfl rfl ?_
      revert hf; refine zbi (fun x8 e_x8 hf => ?_)
      refine zq_getR kg_512 dX12_next_96 e_x8 ?_
      refine zr_aload_n (v := .inl (some l0)) dX12_next_99 rfl rfl ?_
      revert hf; refine zbi (fun x9 e_x9 hf => ?_)
      refine zq_getI kg_518 dX12_next_100 e_x9 ?_
      revert hf; refine zbi (fun x10 e_x10 hf => ?_)
      refine zq_iald dX12_next_103 e_x10 ?_
      revert hf; refine zbi (fun x11 e_x11 hf => ?_)
      refine zq_callS (J' := jX12_isDigit) (as := [zi x10]) (rest := [zr (some l0)]) (r1 := (some (zi x11))) kw_626 km_X12_isDigit kt_524 dX12_next_104 rfl (Nat.le_of_ble_eq_true rfl) rfl (c_X12_isDigit hg e_x11) ?_
      by_cases hc3 : x11 = 0
      · rw [if_pos hc3] at hf
        refine zr_ifeq_t (tgt := 114) dX12_next_107 (by decide) hc3 ?_
        refine zr_aload_n (v := .inl (some l0)) dX12_next_114 rfl rfl ?_
        revert hf; refine zbi (fun x12 e_x12 hf => ?_)
        refine zq_getR kg_512 dX12_next_115 e_x12 ?_
        refine zr_aload_n (v := .inl (some l0)) dX12_next_118 rfl rfl ?_
        revert hf; refine zbi (fun x13 e_x13 hf => ?_)
        refine zq_getI kg_518 dX12_next_119 e_x13 ?_
        revert hf; refine zbi (fun x14 e_x14 hf => ?_)
        refine zq_iald dX12_next_122 e_x14 ?_
        refine zr_bipush (v := (58 : Int32)) dX12_next_123 (by decide) ?_
        by_cases hc4 : x14 = (58 : Int32)
        · rw [if_pos hc4] at hf
          refine zr_iceq_t (tgt := 142) dX12_next_125 (by decide) hc4 ?_
          exact s_X12_next_142 hg N l0 l0 h1 h' hf
        · rw [if_neg hc4] at hf
          refine zr_iceq_f 142 dX12_next_125 (by decide) hc4 ?_
          refine zr_aload_n (v := .inl (some l0)) dX12_next_128 rfl rfl ?_
          revert hf; refine zbi (fun x15 e_x15 hf => ?_)
          refine zq_getR kg_512 dX12_next_129 e_x15 ?_
          refine zr_aload_n (v := .inl (some l0)) dX12_next_132 rfl rfl ?_
          revert hf; refine zbi (fun x16 e_x16 hf => ?_)
          refine zq_getI kg_518 dX12_next_133 e_x16 ?_
          revert hf; refine zbi (fun x17 e_x17 hf => ?_)
          refine zq_iald dX12_next_136 e_x17 ?_
          refine zr_bipush (v := (59 : Int32)) dX12_next_137 (by decide) ?_
          by_cases hc5 : x17 = (59 : Int32)
          · rw [if_pos hc5] at hf
            refine zr_icne_f 154 dX12_next_139 (by decide) hc5 ?_
            exact s_X12_next_142 hg N l0 l0 h1 h' hf
          · rw [if_neg hc5] at hf
            refine zr_icne_t (tgt := 154) dX12_next_139 (by decide) hc5 ?_
            refine zr_iconst (v := ((-1) : Int32)) dX12_next_154 (by decide) ?_
            exact s_X12_next_155 hg N l0 ((-1) : Int32) l0 h1 h' hf
      · rw [if_neg hc3] at hf
        refine zr_ifeq_f 114 dX12_next_107 (by decide) hc3 ?_
        refine zr_iconst (v := (2 : Int32)) dX12_next_110 (by decide) ?_
        refine zr_goto (tgt := 155) dX12_next_111 (by decide) ?_
        exact s_X12_next_155 hg N l0 (2 : Int32) l0 h1 h' hf
    · rw [if_neg hc2] at hf
      refine zr_ifeq_f 95 dX12_next_88 (by decide) hc2 ?_
      refine zr_iconst (v := (1 : Int32)) dX12_next_91 (by decide) ?_
      refine zr_goto (tgt := 155) dX12_next_92 (by decide) ?_
      exact s_X12_next_155 hg N l0 (1 : Int32) l0 h1 h' hf
def f_X12_next_0 (N : Nat) : Nat → Nat → zH → Option zH
  | 0, _, _ => none
  | n + 1, l0, h => (zgI h 12 (some l0) 4).bind fun x1 => (zgI h 12 (some l0) 5).bind fun x2 => if x2 ≤ x1 then f_X12_next_52 N l0 h else (zgR h 12 (some l0) 2).bind fun x3 => (zgI h 12 (some l0) 4).bind fun x4 => (zld h 0 x3 x4).bind fun x5 => if x5 = (10 : Int32) then f_X12_next_39 N (fun l0 h => f_X12_next_0 N n l0 h) l0 h else (zgR h 12 (some l0) 2).bind fun x6 => (zgI h 12 (some l0) 4).bind fun x7 => (zld h 0 x6 x7).bind fun x8 => if x8 = (32 : Int32) then f_X12_next_39 N (fun l0 h => f_X12_next_0 N n l0 h) l0 h else f_X12_next_52 N l0 h
set_option maxHeartbeats 4000000 in
set_option maxRecDepth 100000 in
theorem s_X12_next_0 {g : zG} (hg : g.2.1.map (fun q => q.2) = zty) {h0 : zH} (N : Nat) : ∀ (n : Nat) (l0 : Nat) (h : zH) (h' : zH), f_X12_next_0 N n l0 h = some h' → zR g jX12_next h0 0 [some (zr (some l0))] [] h none h' := by
  intro n
  induction n with
  | zero =>
    intro l0 h h' hf
    cases hf
  | succ n ih =>
    intro l0 h h' hf
    rw [f_X12_next_0] at hf
    refine zr_aload_n (v := .inl (some l0)) dX12_next_0 rfl rfl ?_
    revert hf; refine zbi (fun x1 e_x1 hf => ?_)
    refine zq_getI kg_518 dX12_next_1 e_x1 ?_
    refine zr_aload_n (v := .inl (some l0)) dX12_next_4 rfl rfl ?_
    revert hf; refine zbi (fun x2 e_x2 hf => ?_)
    refine zq_getI kg_520 dX12_next_5 e_x2 ?_
    by_cases hc1 : x2 ≤ x1
    · rw [if_pos hc1] at hf
      refine zr_icge_t (tgt := 52) dX12_next_8 (by decide) hc1 ?_
      exact s_X12_next_52 hg N l0 h h' hf
    · rw [if_neg hc1] at hf
      refine zr_icge_f 52 dX12_next_8 (by decide) hc1 ?_
      refine zr_aload_n (v := .inl (some l0)) dX12_next_11 rfl rfl ?_
      revert hf; refine zbi (fun x3 e_x3 hf => ?_)
      refine zq_getR kg_512 dX12_next_12 e_x3 ?_
      refine zr_aload_n (v := .inl (some l0)) dX12_next_15 rfl rfl ?_
      revert hf; refine zbi (fun x4 e_x4 hf => ?_)
      refine zq_getI kg_518 dX12_next_16 e_x4 ?_
      revert hf; refine zbi (fun x5 e_x5 hf => ?_)
      refine zq_iald dX12_next_19 e_x5 ?_
      refine zr_bipush (v := (10 : Int32)) dX12_next_20 (by decide) ?_
      by_cases hc2 : x5 = (10 : Int32)
      · rw [if_pos hc2] at hf
        refine zr_iceq_t (tgt := 39) dX12_next_22 (by decide) hc2 ?_
        exact s_X12_next_39 hg N _ ih l0 h h' hf
      · rw [if_neg hc2] at hf
        refine zr_iceq_f 39 dX12_next_22 (by decide) hc2 ?_
        refine zr_aload_n (v := .inl (some l0)) dX12_next_25 rfl rfl ?_
        revert hf; refine zbi (fun x6 e_x6 hf => ?_)
        refine zq_getR kg_512 dX12_next_26 e_x6 ?_
        refine zr_aload_n (v := .inl (some l0)) dX12_next_29 rfl rfl ?_
        revert hf; refine zbi (fun x7 e_x7 hf => ?_)
        refine zq_getI kg_518 dX12_next_30 e_x7 ?_
        revert hf; refine zbi (fun x8 e_x8 hf => ?_)
        refine zq_iald dX12_next_33 e_x8 ?_
        refine zr_bipush (v := (32 : Int32)) dX12_next_34 (by decide) ?_
        by_cases hc3 : x8 = (32 : Int32)
        · rw [if_pos hc3] at hf
          refine zr_icne_f 52 dX12_next_36 (by decide) hc3 ?_
          exact s_X12_next_39 hg N _ ih l0 h h' hf
        · rw [if_neg hc3] at hf
          refine zr_icne_t (tgt := 52) dX12_next_36 (by decide) hc3 ?_
          exact s_X12_next_52 hg N l0 h h' hf
def f_X12_next (N : Nat) (l0 : Nat) (h : zH) : Option zH := f_X12_next_0 N N l0 h
theorem s_X12_next {g : zG} (hg : g.2.1.map (fun q => q.2) = zty) {h0 : zH} (N : Nat) (l0 : Nat) (h : zH) (h' : zH) (hf : f_X12_next N l0 h = some h') : zR g jX12_next h0 0 [some (zr (some l0))] [] h none h' := s_X12_next_0 hg N N l0 h h' hf
theorem c_X12_next {g : zG} (hg : g.2.1.map (fun q => q.2) = zty) {N : Nat} {l0 : Nat} {h : zH} {h' : zH} (hf : f_X12_next N l0 h = some h') : zCa g jX12_next [zr (some l0)] h none h' :=
  zCa.of hg (by decide +kernel) (Nat.le_of_ble_eq_true rfl) (s_X12_next hg N l0 h h' hf)
