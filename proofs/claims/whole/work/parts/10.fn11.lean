/-! WordYearModel.<init> -/
noncomputable def f_X12_init (o0 : Nat) (w : Mm) : Option Mm := Option.bind (alq w 23 300) (fun p1 => if gK p1.2 o0 = some (12, 64) then (Option.bind (alq (sI (sR p1.2 o0 0 (some p1.1)) o0 5 (1000 : Int32)) 20 10) (fun p3 => Option.bind (alq (sR p3.2 o0 8 (some p3.1)) 20 10) (fun p4 => Option.bind (alq (sR p4.2 o0 9 (some p4.1)) 20 10) (fun p5 => Option.bind (alq (sR p5.2 o0 10 (some p5.1)) 20 10) (fun p6 => Option.bind (alq (sR p6.2 o0 11 (some p6.1)) 20 4) (fun p7 => Option.bind (alq (sR p7.2 o0 12 (some p7.1)) 20 24) (fun p8 => Option.bind (alq (sR p8.2 o0 13 (some p8.1)) 20 24) (fun p9 => Option.bind (alq (sR p9.2 o0 14 (some p9.1)) 20 24) (fun p10 => Option.bind (alq (sR p10.2 o0 15 (some p10.1)) 20 24) (fun p11 => Option.bind (alq (sR p11.2 o0 16 (some p11.1)) 20 12) (fun p12 => Option.bind (alq (sR p12.2 o0 18 (some p12.1)) 20 12) (fun p13 => Option.bind (alq (sR p13.2 o0 19 (some p13.1)) 20 12) (fun p14 => Option.bind (alq (sR p14.2 o0 20 (some p14.1)) 20 160) (fun p15 => Option.bind (alq (sR p15.2 o0 21 (some p15.1)) 20 160) (fun p16 => Option.bind (alq (sR p16.2 o0 22 (some p16.1)) 20 12) (fun p17 => Option.bind (alq (sR p17.2 o0 23 (some p17.1)) 20 12) (fun p18 => Option.bind (alq (sR p18.2 o0 24 (some p18.1)) 20 12) (fun p19 => Option.bind (alq (sR p19.2 o0 25 (some p19.1)) 20 160) (fun p20 => Option.bind (alq (sR p20.2 o0 26 (some p20.1)) 20 160) (fun p21 => Option.bind (alq (sR p21.2 o0 27 (some p21.1)) 20 200) (fun p22 => Option.bind (alq (sR p22.2 o0 37 (some p22.1)) 20 200) (fun p23 => Option.bind (alq (sR p23.2 o0 41 (some p23.1)) 22 200) (fun p24 => Option.bind (alq (sR p24.2 o0 42 (some p24.1)) 22 1024) (fun p25 => Option.bind (alq (sR p25.2 o0 43 (some p25.1)) 20 65536) (fun p26 => Option.bind (alq (sR p26.2 o0 44 (some p26.1)) 22 1024) (fun p27 => Option.bind (alq (sR p27.2 o0 49 (some p27.1)) 21 4096) (fun p28 => Option.bind (alq (sR p28.2 o0 50 (some p28.1)) 20 1024) (fun p29 => Option.bind (alq (sR p29.2 o0 51 (some p29.1)) 21 1024) (fun p30 => Option.bind (alq (sR p30.2 o0 52 (some p30.1)) 22 64) (fun p31 => Option.bind (alq (sR p31.2 o0 53 (some p31.1)) 20 64) (fun p32 => Option.bind (alq (sR p32.2 o0 54 (some p32.1)) 22 4) (fun p33 => Option.bind (alq (sR p33.2 o0 55 (some p33.1)) 20 4) (fun p34 => Option.bind (alq (sR p34.2 o0 56 (some p34.1)) 20 40) (fun p35 => Option.bind (alq (sR p35.2 o0 57 (some p35.1)) 20 16) (fun p36 => Option.bind (alq (sR p36.2 o0 58 (some p36.1)) 20 10) (fun p37 => Option.bind (alq (sR p37.2 o0 59 (some p37.1)) 20 4) (fun p38 => Option.bind (alq (sR p38.2 o0 60 (some p38.1)) 20 64) (fun p39 => Option.bind (alq (sR p39.2 o0 61 (some p39.1)) 20 64) (fun p40 => some (sR p40.2 o0 63 (some p40.1))))))))))))))))))))))))))))))))))))))))) else none)
set_option maxHeartbeats 4000000 in
set_option maxRecDepth 100000 in
theorem c_X12_init (g : Gx) (d : Nat) {o0 : Nat} {w : Mm} {p : Mm}  (h : f_X12_init o0 w = some p) : Call g (d + 1) yX12_init cX12_init 1 none [rf g o0] w none p := by
  refine call_of (L0 := [some (rf g o0)]) (by decide) rfl (Nat.le_of_ble_eq_true rfl) (fun V S0 => ?_)
  have S := S0.b
  unfold f_X12_init at h
  refine i_aload_n S dX12_init_0 rfl ?_
  refine i_objInit S lk_X12_1 im_obj cd_obj dX12_init_1 (Nat.le_of_ble_eq_true rfl) ?_
  refine i_aload_n S dX12_init_4 rfl ?_
  refine i_sipush (v := 300) S dX12_init_5 sp_300 ?_
  obtain ⟨p1, e1, h⟩ := bn h
  refine i_newaqB (N := 300) S ac_byte (by decide) (by decide) (by decide) e1 dX12_init_8 ?_
  obtain ⟨hk2, h⟩ := gd h
  refine i_putFR (x := some p1.1) S fl_X12_7 hk2 rfl rfl (fun C T h => ci_d12 h 0 (by decide)) rfl rfl dX12_init_10 ?_
  refine i_aload_n S dX12_init_13 rfl ?_
  refine i_sipush (v := 1000) S dX12_init_14 sp_1000 ?_
  refine i_putI S fl_X12_13 hk2 rfl rfl rfl dX12_init_17 ?_
  refine i_aload_n S dX12_init_20 rfl ?_
  refine i_bipush (v := 10) S dX12_init_21 bp_10 ?_
  obtain ⟨p3, e3, h⟩ := bn h
  refine i_newaqI (N := 10) S ac_int (by decide) (by decide) (by decide) e3 dX12_init_23 ?_
  refine i_putFR (x := some p3.1) S fl_X12_17 (alq_old e3 hk2) rfl rfl (fun C T h => ci_d12 h 8 (by decide)) rfl rfl dX12_init_25 ?_
  refine i_aload_n S dX12_init_28 rfl ?_
  refine i_bipush (v := 10) S dX12_init_29 bp_10 ?_
  obtain ⟨p4, e4, h⟩ := bn h
  refine i_newaqI (N := 10) S ac_int (by decide) (by decide) (by decide) e4 dX12_init_31 ?_
  refine i_putFR (x := some p4.1) S fl_X12_21 (alq_old e4 (alq_old e3 hk2)) rfl rfl (fun C T h => ci_d12 h 9 (by decide)) rfl rfl dX12_init_33 ?_
  refine i_aload_n S dX12_init_36 rfl ?_
  refine i_bipush (v := 10) S dX12_init_37 bp_10 ?_
  obtain ⟨p5, e5, h⟩ := bn h
  refine i_newaqI (N := 10) S ac_int (by decide) (by decide) (by decide) e5 dX12_init_39 ?_
  refine i_putFR (x := some p5.1) S fl_X12_24 (alq_old e5 (alq_old e4 (alq_old e3 hk2))) rfl rfl (fun C T h => ci_d12 h 10 (by decide)) rfl rfl dX12_init_41 ?_
  refine i_aload_n S dX12_init_44 rfl ?_
  refine i_bipush (v := 10) S dX12_init_45 bp_10 ?_
  obtain ⟨p6, e6, h⟩ := bn h
  refine i_newaqI (N := 10) S ac_int (by decide) (by decide) (by decide) e6 dX12_init_47 ?_
  refine i_putFR (x := some p6.1) S fl_X12_27 (alq_old e6 (alq_old e5 (alq_old e4 (alq_old e3 hk2)))) rfl rfl (fun C T h => ci_d12 h 11 (by decide)) rfl rfl dX12_init_49 ?_
  refine i_aload_n S dX12_init_52 rfl ?_
  refine i_iconst (v := 4) S dX12_init_53 ic_4 ?_
  obtain ⟨p7, e7, h⟩ := bn h
  refine i_newaqI (N := 4) S ac_int (by decide) (by decide) (by decide) e7 dX12_init_54 ?_
  refine i_putFR (x := some p7.1) S fl_X12_30 (alq_old e7 (alq_old e6 (alq_old e5 (alq_old e4 (alq_old e3 hk2))))) rfl rfl (fun C T h => ci_d12 h 12 (by decide)) rfl rfl dX12_init_56 ?_
  refine i_aload_n S dX12_init_59 rfl ?_
  refine i_bipush (v := 24) S dX12_init_60 bp_24 ?_
  obtain ⟨p8, e8, h⟩ := bn h
  refine i_newaqI (N := 24) S ac_int (by decide) (by decide) (by decide) e8 dX12_init_62 ?_
  refine i_putFR (x := some p8.1) S fl_X12_33 (alq_old e8 (alq_old e7 (alq_old e6 (alq_old e5 (alq_old e4 (alq_old e3 hk2)))))) rfl rfl (fun C T h => ci_d12 h 13 (by decide)) rfl rfl dX12_init_64 ?_
  refine i_aload_n S dX12_init_67 rfl ?_
  refine i_bipush (v := 24) S dX12_init_68 bp_24 ?_
  obtain ⟨p9, e9, h⟩ := bn h
  refine i_newaqI (N := 24) S ac_int (by decide) (by decide) (by decide) e9 dX12_init_70 ?_
  refine i_putFR (x := some p9.1) S fl_X12_36 (alq_old e9 (alq_old e8 (alq_old e7 (alq_old e6 (alq_old e5 (alq_old e4 (alq_old e3 hk2))))))) rfl rfl (fun C T h => ci_d12 h 14 (by decide)) rfl rfl dX12_init_72 ?_
  refine i_aload_n S dX12_init_75 rfl ?_
  refine i_bipush (v := 24) S dX12_init_76 bp_24 ?_
  obtain ⟨p10, e10, h⟩ := bn h
  refine i_newaqI (N := 24) S ac_int (by decide) (by decide) (by decide) e10 dX12_init_78 ?_
  refine i_putFR (x := some p10.1) S fl_X12_39 (alq_old e10 (alq_old e9 (alq_old e8 (alq_old e7 (alq_old e6 (alq_old e5 (alq_old e4 (alq_old e3 hk2)))))))) rfl rfl (fun C T h => ci_d12 h 15 (by decide)) rfl rfl dX12_init_80 ?_
  refine i_aload_n S dX12_init_83 rfl ?_
  refine i_bipush (v := 24) S dX12_init_84 bp_24 ?_
  obtain ⟨p11, e11, h⟩ := bn h
  refine i_newaqI (N := 24) S ac_int (by decide) (by decide) (by decide) e11 dX12_init_86 ?_
  refine i_putFR (x := some p11.1) S fl_X12_42 (alq_old e11 (alq_old e10 (alq_old e9 (alq_old e8 (alq_old e7 (alq_old e6 (alq_old e5 (alq_old e4 (alq_old e3 hk2))))))))) rfl rfl (fun C T h => ci_d12 h 16 (by decide)) rfl rfl dX12_init_88 ?_
  refine i_aload_n S dX12_init_91 rfl ?_
  refine i_bipush (v := 12) S dX12_init_92 bp_12 ?_
  obtain ⟨p12, e12, h⟩ := bn h
  refine i_newaqI (N := 12) S ac_int (by decide) (by decide) (by decide) e12 dX12_init_94 ?_
  refine i_putFR (x := some p12.1) S fl_X12_45 (alq_old e12 (alq_old e11 (alq_old e10 (alq_old e9 (alq_old e8 (alq_old e7 (alq_old e6 (alq_old e5 (alq_old e4 (alq_old e3 hk2)))))))))) rfl rfl (fun C T h => ci_d12 h 18 (by decide)) rfl rfl dX12_init_96 ?_
  refine i_aload_n S dX12_init_99 rfl ?_
  refine i_bipush (v := 12) S dX12_init_100 bp_12 ?_
  obtain ⟨p13, e13, h⟩ := bn h
  refine i_newaqI (N := 12) S ac_int (by decide) (by decide) (by decide) e13 dX12_init_102 ?_
  refine i_putFR (x := some p13.1) S fl_X12_48 (alq_old e13 (alq_old e12 (alq_old e11 (alq_old e10 (alq_old e9 (alq_old e8 (alq_old e7 (alq_old e6 (alq_old e5 (alq_old e4 (alq_old e3 hk2))))))))))) rfl rfl (fun C T h => ci_d12 h 19 (by decide)) rfl rfl dX12_init_104 ?_
  refine i_aload_n S dX12_init_107 rfl ?_
  refine i_bipush (v := 12) S dX12_init_108 bp_12 ?_
  obtain ⟨p14, e14, h⟩ := bn h
  refine i_newaqI (N := 12) S ac_int (by decide) (by decide) (by decide) e14 dX12_init_110 ?_
  refine i_putFR (x := some p14.1) S fl_X12_51 (alq_old e14 (alq_old e13 (alq_old e12 (alq_old e11 (alq_old e10 (alq_old e9 (alq_old e8 (alq_old e7 (alq_old e6 (alq_old e5 (alq_old e4 (alq_old e3 hk2)))))))))))) rfl rfl (fun C T h => ci_d12 h 20 (by decide)) rfl rfl dX12_init_112 ?_
  refine i_aload_n S dX12_init_115 rfl ?_
  refine i_sipush (v := 160) S dX12_init_116 sp_160 ?_
  obtain ⟨p15, e15, h⟩ := bn h
  refine i_newaqI (N := 160) S ac_int (by decide) (by decide) (by decide) e15 dX12_init_119 ?_
  refine i_putFR (x := some p15.1) S fl_X12_54 (alq_old e15 (alq_old e14 (alq_old e13 (alq_old e12 (alq_old e11 (alq_old e10 (alq_old e9 (alq_old e8 (alq_old e7 (alq_old e6 (alq_old e5 (alq_old e4 (alq_old e3 hk2))))))))))))) rfl rfl (fun C T h => ci_d12 h 21 (by decide)) rfl rfl dX12_init_121 ?_
  refine i_aload_n S dX12_init_124 rfl ?_
  refine i_sipush (v := 160) S dX12_init_125 sp_160 ?_
  obtain ⟨p16, e16, h⟩ := bn h
  refine i_newaqI (N := 160) S ac_int (by decide) (by decide) (by decide) e16 dX12_init_128 ?_
  refine i_putFR (x := some p16.1) S fl_X12_57 (alq_old e16 (alq_old e15 (alq_old e14 (alq_old e13 (alq_old e12 (alq_old e11 (alq_old e10 (alq_old e9 (alq_old e8 (alq_old e7 (alq_old e6 (alq_old e5 (alq_old e4 (alq_old e3 hk2)))))))))))))) rfl rfl (fun C T h => ci_d12 h 22 (by decide)) rfl rfl dX12_init_130 ?_
  refine i_aload_n S dX12_init_133 rfl ?_
  refine i_bipush (v := 12) S dX12_init_134 bp_12 ?_
  obtain ⟨p17, e17, h⟩ := bn h
  refine i_newaqI (N := 12) S ac_int (by decide) (by decide) (by decide) e17 dX12_init_136 ?_
  refine i_putFR (x := some p17.1) S fl_X12_60 (alq_old e17 (alq_old e16 (alq_old e15 (alq_old e14 (alq_old e13 (alq_old e12 (alq_old e11 (alq_old e10 (alq_old e9 (alq_old e8 (alq_old e7 (alq_old e6 (alq_old e5 (alq_old e4 (alq_old e3 hk2))))))))))))))) rfl rfl (fun C T h => ci_d12 h 23 (by decide)) rfl rfl dX12_init_138 ?_
  refine i_aload_n S dX12_init_141 rfl ?_
  refine i_bipush (v := 12) S dX12_init_142 bp_12 ?_
  obtain ⟨p18, e18, h⟩ := bn h
  refine i_newaqI (N := 12) S ac_int (by decide) (by decide) (by decide) e18 dX12_init_144 ?_
  refine i_putFR (x := some p18.1) S fl_X12_63 (alq_old e18 (alq_old e17 (alq_old e16 (alq_old e15 (alq_old e14 (alq_old e13 (alq_old e12 (alq_old e11 (alq_old e10 (alq_old e9 (alq_old e8 (alq_old e7 (alq_old e6 (alq_old e5 (alq_old e4 (alq_old e3 hk2)))))))))))))))) rfl rfl (fun C T h => ci_d12 h 24 (by decide)) rfl rfl dX12_init_146 ?_
  refine i_aload_n S dX12_init_149 rfl ?_
  refine i_bipush (v := 12) S dX12_init_150 bp_12 ?_
  obtain ⟨p19, e19, h⟩ := bn h
  refine i_newaqI (N := 12) S ac_int (by decide) (by decide) (by decide) e19 dX12_init_152 ?_
  refine i_putFR (x := some p19.1) S fl_X12_66 (alq_old e19 (alq_old e18 (alq_old e17 (alq_old e16 (alq_old e15 (alq_old e14 (alq_old e13 (alq_old e12 (alq_old e11 (alq_old e10 (alq_old e9 (alq_old e8 (alq_old e7 (alq_old e6 (alq_old e5 (alq_old e4 (alq_old e3 hk2))))))))))))))))) rfl rfl (fun C T h => ci_d12 h 25 (by decide)) rfl rfl dX12_init_154 ?_
  refine i_aload_n S dX12_init_157 rfl ?_
  refine i_sipush (v := 160) S dX12_init_158 sp_160 ?_
  obtain ⟨p20, e20, h⟩ := bn h
  refine i_newaqI (N := 160) S ac_int (by decide) (by decide) (by decide) e20 dX12_init_161 ?_
  refine i_putFR (x := some p20.1) S fl_X12_69 (alq_old e20 (alq_old e19 (alq_old e18 (alq_old e17 (alq_old e16 (alq_old e15 (alq_old e14 (alq_old e13 (alq_old e12 (alq_old e11 (alq_old e10 (alq_old e9 (alq_old e8 (alq_old e7 (alq_old e6 (alq_old e5 (alq_old e4 (alq_old e3 hk2)))))))))))))))))) rfl rfl (fun C T h => ci_d12 h 26 (by decide)) rfl rfl dX12_init_163 ?_
  refine i_aload_n S dX12_init_166 rfl ?_
  refine i_sipush (v := 160) S dX12_init_167 sp_160 ?_
  obtain ⟨p21, e21, h⟩ := bn h
  refine i_newaqI (N := 160) S ac_int (by decide) (by decide) (by decide) e21 dX12_init_170 ?_
  refine i_putFR (x := some p21.1) S fl_X12_72 (alq_old e21 (alq_old e20 (alq_old e19 (alq_old e18 (alq_old e17 (alq_old e16 (alq_old e15 (alq_old e14 (alq_old e13 (alq_old e12 (alq_old e11 (alq_old e10 (alq_old e9 (alq_old e8 (alq_old e7 (alq_old e6 (alq_old e5 (alq_old e4 (alq_old e3 hk2))))))))))))))))))) rfl rfl (fun C T h => ci_d12 h 27 (by decide)) rfl rfl dX12_init_172 ?_
  refine i_aload_n S dX12_init_175 rfl ?_
  refine i_sipush (v := 200) S dX12_init_176 sp_200 ?_
  obtain ⟨p22, e22, h⟩ := bn h
  refine i_newaqI (N := 200) S ac_int (by decide) (by decide) (by decide) e22 dX12_init_179 ?_
  refine i_putFR (x := some p22.1) S fl_X12_75 (alq_old e22 (alq_old e21 (alq_old e20 (alq_old e19 (alq_old e18 (alq_old e17 (alq_old e16 (alq_old e15 (alq_old e14 (alq_old e13 (alq_old e12 (alq_old e11 (alq_old e10 (alq_old e9 (alq_old e8 (alq_old e7 (alq_old e6 (alq_old e5 (alq_old e4 (alq_old e3 hk2)))))))))))))))))))) rfl rfl (fun C T h => ci_d12 h 37 (by decide)) rfl rfl dX12_init_181 ?_
  refine i_aload_n S dX12_init_184 rfl ?_
  refine i_sipush (v := 200) S dX12_init_185 sp_200 ?_
  obtain ⟨p23, e23, h⟩ := bn h
  refine i_newaqI (N := 200) S ac_int (by decide) (by decide) (by decide) e23 dX12_init_188 ?_
  refine i_putFR (x := some p23.1) S fl_X12_78 (alq_old e23 (alq_old e22 (alq_old e21 (alq_old e20 (alq_old e19 (alq_old e18 (alq_old e17 (alq_old e16 (alq_old e15 (alq_old e14 (alq_old e13 (alq_old e12 (alq_old e11 (alq_old e10 (alq_old e9 (alq_old e8 (alq_old e7 (alq_old e6 (alq_old e5 (alq_old e4 (alq_old e3 hk2))))))))))))))))))))) rfl rfl (fun C T h => ci_d12 h 41 (by decide)) rfl rfl dX12_init_190 ?_
  refine i_aload_n S dX12_init_193 rfl ?_
  refine i_sipush (v := 200) S dX12_init_194 sp_200 ?_
  obtain ⟨p24, e24, h⟩ := bn h
  refine i_newaqZ (N := 200) S ac_boolean (by decide) (by decide) (by decide) e24 dX12_init_197 ?_
  refine i_putFR (x := some p24.1) S fl_X12_81 (alq_old e24 (alq_old e23 (alq_old e22 (alq_old e21 (alq_old e20 (alq_old e19 (alq_old e18 (alq_old e17 (alq_old e16 (alq_old e15 (alq_old e14 (alq_old e13 (alq_old e12 (alq_old e11 (alq_old e10 (alq_old e9 (alq_old e8 (alq_old e7 (alq_old e6 (alq_old e5 (alq_old e4 (alq_old e3 hk2)))))))))))))))))))))) rfl rfl (fun C T h => ci_d12 h 42 (by decide)) rfl rfl dX12_init_199 ?_
  refine i_aload_n S dX12_init_202 rfl ?_
  refine i_sipush (v := 1024) S dX12_init_203 sp_1024 ?_
  obtain ⟨p25, e25, h⟩ := bn h
  refine i_newaqZ (N := 1024) S ac_boolean (by decide) (by decide) (by decide) e25 dX12_init_206 ?_
  refine i_putFR (x := some p25.1) S fl_X12_85 (alq_old e25 (alq_old e24 (alq_old e23 (alq_old e22 (alq_old e21 (alq_old e20 (alq_old e19 (alq_old e18 (alq_old e17 (alq_old e16 (alq_old e15 (alq_old e14 (alq_old e13 (alq_old e12 (alq_old e11 (alq_old e10 (alq_old e9 (alq_old e8 (alq_old e7 (alq_old e6 (alq_old e5 (alq_old e4 (alq_old e3 hk2))))))))))))))))))))))) rfl rfl (fun C T h => ci_d12 h 43 (by decide)) rfl rfl dX12_init_208 ?_
  refine i_aload_n S dX12_init_211 rfl ?_
  refine i_ldc S kc_X12_88 dX12_init_212 ?_
  obtain ⟨p26, e26, h⟩ := bn h
  refine i_newaqI (N := 65536) S ac_int (by decide) (by decide) (by decide) e26 dX12_init_214 ?_
  refine i_putFR (x := some p26.1) S fl_X12_89 (alq_old e26 (alq_old e25 (alq_old e24 (alq_old e23 (alq_old e22 (alq_old e21 (alq_old e20 (alq_old e19 (alq_old e18 (alq_old e17 (alq_old e16 (alq_old e15 (alq_old e14 (alq_old e13 (alq_old e12 (alq_old e11 (alq_old e10 (alq_old e9 (alq_old e8 (alq_old e7 (alq_old e6 (alq_old e5 (alq_old e4 (alq_old e3 hk2)))))))))))))))))))))))) rfl rfl (fun C T h => ci_d12 h 44 (by decide)) rfl rfl dX12_init_216 ?_
  refine i_aload_n S dX12_init_219 rfl ?_
  refine i_sipush (v := 1024) S dX12_init_220 sp_1024 ?_
  obtain ⟨p27, e27, h⟩ := bn h
  refine i_newaqZ (N := 1024) S ac_boolean (by decide) (by decide) (by decide) e27 dX12_init_223 ?_
  refine i_putFR (x := some p27.1) S fl_X12_92 (alq_old e27 (alq_old e26 (alq_old e25 (alq_old e24 (alq_old e23 (alq_old e22 (alq_old e21 (alq_old e20 (alq_old e19 (alq_old e18 (alq_old e17 (alq_old e16 (alq_old e15 (alq_old e14 (alq_old e13 (alq_old e12 (alq_old e11 (alq_old e10 (alq_old e9 (alq_old e8 (alq_old e7 (alq_old e6 (alq_old e5 (alq_old e4 (alq_old e3 hk2))))))))))))))))))))))))) rfl rfl (fun C T h => ci_d12 h 49 (by decide)) rfl rfl dX12_init_225 ?_
  refine i_aload_n S dX12_init_228 rfl ?_
  refine i_sipush (v := 4096) S dX12_init_229 sp_4096 ?_
  obtain ⟨p28, e28, h⟩ := bn h
  refine i_newaqL (N := 4096) S ac_long (by decide) (by decide) (by decide) e28 dX12_init_232 ?_
  refine i_putFR (x := some p28.1) S fl_X12_95 (alq_old e28 (alq_old e27 (alq_old e26 (alq_old e25 (alq_old e24 (alq_old e23 (alq_old e22 (alq_old e21 (alq_old e20 (alq_old e19 (alq_old e18 (alq_old e17 (alq_old e16 (alq_old e15 (alq_old e14 (alq_old e13 (alq_old e12 (alq_old e11 (alq_old e10 (alq_old e9 (alq_old e8 (alq_old e7 (alq_old e6 (alq_old e5 (alq_old e4 (alq_old e3 hk2)))))))))))))))))))))))))) rfl rfl (fun C T h => ci_d12 h 50 (by decide)) rfl rfl dX12_init_234 ?_
  refine i_aload_n S dX12_init_237 rfl ?_
  refine i_sipush (v := 1024) S dX12_init_238 sp_1024 ?_
  obtain ⟨p29, e29, h⟩ := bn h
  refine i_newaqI (N := 1024) S ac_int (by decide) (by decide) (by decide) e29 dX12_init_241 ?_
  refine i_putFR (x := some p29.1) S fl_X12_99 (alq_old e29 (alq_old e28 (alq_old e27 (alq_old e26 (alq_old e25 (alq_old e24 (alq_old e23 (alq_old e22 (alq_old e21 (alq_old e20 (alq_old e19 (alq_old e18 (alq_old e17 (alq_old e16 (alq_old e15 (alq_old e14 (alq_old e13 (alq_old e12 (alq_old e11 (alq_old e10 (alq_old e9 (alq_old e8 (alq_old e7 (alq_old e6 (alq_old e5 (alq_old e4 (alq_old e3 hk2))))))))))))))))))))))))))) rfl rfl (fun C T h => ci_d12 h 51 (by decide)) rfl rfl dX12_init_243 ?_
  refine i_aload_n S dX12_init_246 rfl ?_
  refine i_sipush (v := 1024) S dX12_init_247 sp_1024 ?_
  obtain ⟨p30, e30, h⟩ := bn h
  refine i_newaqL (N := 1024) S ac_long (by decide) (by decide) (by decide) e30 dX12_init_250 ?_
  refine i_putFR (x := some p30.1) S fl_X12_102 (alq_old e30 (alq_old e29 (alq_old e28 (alq_old e27 (alq_old e26 (alq_old e25 (alq_old e24 (alq_old e23 (alq_old e22 (alq_old e21 (alq_old e20 (alq_old e19 (alq_old e18 (alq_old e17 (alq_old e16 (alq_old e15 (alq_old e14 (alq_old e13 (alq_old e12 (alq_old e11 (alq_old e10 (alq_old e9 (alq_old e8 (alq_old e7 (alq_old e6 (alq_old e5 (alq_old e4 (alq_old e3 hk2)))))))))))))))))))))))))))) rfl rfl (fun C T h => ci_d12 h 52 (by decide)) rfl rfl dX12_init_252 ?_
  refine i_aload_n S dX12_init_255 rfl ?_
  refine i_bipush (v := 64) S dX12_init_256 bp_64 ?_
  obtain ⟨p31, e31, h⟩ := bn h
  refine i_newaqZ (N := 64) S ac_boolean (by decide) (by decide) (by decide) e31 dX12_init_258 ?_
  refine i_putFR (x := some p31.1) S fl_X12_105 (alq_old e31 (alq_old e30 (alq_old e29 (alq_old e28 (alq_old e27 (alq_old e26 (alq_old e25 (alq_old e24 (alq_old e23 (alq_old e22 (alq_old e21 (alq_old e20 (alq_old e19 (alq_old e18 (alq_old e17 (alq_old e16 (alq_old e15 (alq_old e14 (alq_old e13 (alq_old e12 (alq_old e11 (alq_old e10 (alq_old e9 (alq_old e8 (alq_old e7 (alq_old e6 (alq_old e5 (alq_old e4 (alq_old e3 hk2))))))))))))))))))))))))))))) rfl rfl (fun C T h => ci_d12 h 53 (by decide)) rfl rfl dX12_init_260 ?_
  refine i_aload_n S dX12_init_263 rfl ?_
  refine i_bipush (v := 64) S dX12_init_264 bp_64 ?_
  obtain ⟨p32, e32, h⟩ := bn h
  refine i_newaqI (N := 64) S ac_int (by decide) (by decide) (by decide) e32 dX12_init_266 ?_
  refine i_putFR (x := some p32.1) S fl_X12_108 (alq_old e32 (alq_old e31 (alq_old e30 (alq_old e29 (alq_old e28 (alq_old e27 (alq_old e26 (alq_old e25 (alq_old e24 (alq_old e23 (alq_old e22 (alq_old e21 (alq_old e20 (alq_old e19 (alq_old e18 (alq_old e17 (alq_old e16 (alq_old e15 (alq_old e14 (alq_old e13 (alq_old e12 (alq_old e11 (alq_old e10 (alq_old e9 (alq_old e8 (alq_old e7 (alq_old e6 (alq_old e5 (alq_old e4 (alq_old e3 hk2)))))))))))))))))))))))))))))) rfl rfl (fun C T h => ci_d12 h 54 (by decide)) rfl rfl dX12_init_268 ?_
  refine i_aload_n S dX12_init_271 rfl ?_
  refine i_iconst (v := 4) S dX12_init_272 ic_4 ?_
  obtain ⟨p33, e33, h⟩ := bn h
  refine i_newaqZ (N := 4) S ac_boolean (by decide) (by decide) (by decide) e33 dX12_init_273 ?_
  refine i_putFR (x := some p33.1) S fl_X12_111 (alq_old e33 (alq_old e32 (alq_old e31 (alq_old e30 (alq_old e29 (alq_old e28 (alq_old e27 (alq_old e26 (alq_old e25 (alq_old e24 (alq_old e23 (alq_old e22 (alq_old e21 (alq_old e20 (alq_old e19 (alq_old e18 (alq_old e17 (alq_old e16 (alq_old e15 (alq_old e14 (alq_old e13 (alq_old e12 (alq_old e11 (alq_old e10 (alq_old e9 (alq_old e8 (alq_old e7 (alq_old e6 (alq_old e5 (alq_old e4 (alq_old e3 hk2))))))))))))))))))))))))))))))) rfl rfl (fun C T h => ci_d12 h 55 (by decide)) rfl rfl dX12_init_275 ?_
  refine i_aload_n S dX12_init_278 rfl ?_
  refine i_iconst (v := 4) S dX12_init_279 ic_4 ?_
  obtain ⟨p34, e34, h⟩ := bn h
  refine i_newaqI (N := 4) S ac_int (by decide) (by decide) (by decide) e34 dX12_init_280 ?_
  refine i_putFR (x := some p34.1) S fl_X12_114 (alq_old e34 (alq_old e33 (alq_old e32 (alq_old e31 (alq_old e30 (alq_old e29 (alq_old e28 (alq_old e27 (alq_old e26 (alq_old e25 (alq_old e24 (alq_old e23 (alq_old e22 (alq_old e21 (alq_old e20 (alq_old e19 (alq_old e18 (alq_old e17 (alq_old e16 (alq_old e15 (alq_old e14 (alq_old e13 (alq_old e12 (alq_old e11 (alq_old e10 (alq_old e9 (alq_old e8 (alq_old e7 (alq_old e6 (alq_old e5 (alq_old e4 (alq_old e3 hk2)))))))))))))))))))))))))))))))) rfl rfl (fun C T h => ci_d12 h 56 (by decide)) rfl rfl dX12_init_282 ?_
  refine i_aload_n S dX12_init_285 rfl ?_
  refine i_bipush (v := 40) S dX12_init_286 bp_40 ?_
  obtain ⟨p35, e35, h⟩ := bn h
  refine i_newaqI (N := 40) S ac_int (by decide) (by decide) (by decide) e35 dX12_init_288 ?_
  refine i_putFR (x := some p35.1) S fl_X12_117 (alq_old e35 (alq_old e34 (alq_old e33 (alq_old e32 (alq_old e31 (alq_old e30 (alq_old e29 (alq_old e28 (alq_old e27 (alq_old e26 (alq_old e25 (alq_old e24 (alq_old e23 (alq_old e22 (alq_old e21 (alq_old e20 (alq_old e19 (alq_old e18 (alq_old e17 (alq_old e16 (alq_old e15 (alq_old e14 (alq_old e13 (alq_old e12 (alq_old e11 (alq_old e10 (alq_old e9 (alq_old e8 (alq_old e7 (alq_old e6 (alq_old e5 (alq_old e4 (alq_old e3 hk2))))))))))))))))))))))))))))))))) rfl rfl (fun C T h => ci_d12 h 57 (by decide)) rfl rfl dX12_init_290 ?_
  refine i_aload_n S dX12_init_293 rfl ?_
  refine i_bipush (v := 16) S dX12_init_294 bp_16 ?_
  obtain ⟨p36, e36, h⟩ := bn h
  refine i_newaqI (N := 16) S ac_int (by decide) (by decide) (by decide) e36 dX12_init_296 ?_
  refine i_putFR (x := some p36.1) S fl_X12_120 (alq_old e36 (alq_old e35 (alq_old e34 (alq_old e33 (alq_old e32 (alq_old e31 (alq_old e30 (alq_old e29 (alq_old e28 (alq_old e27 (alq_old e26 (alq_old e25 (alq_old e24 (alq_old e23 (alq_old e22 (alq_old e21 (alq_old e20 (alq_old e19 (alq_old e18 (alq_old e17 (alq_old e16 (alq_old e15 (alq_old e14 (alq_old e13 (alq_old e12 (alq_old e11 (alq_old e10 (alq_old e9 (alq_old e8 (alq_old e7 (alq_old e6 (alq_old e5 (alq_old e4 (alq_old e3 hk2)))))))))))))))))))))))))))))))))) rfl rfl (fun C T h => ci_d12 h 58 (by decide)) rfl rfl dX12_init_298 ?_
  refine i_aload_n S dX12_init_301 rfl ?_
  refine i_bipush (v := 10) S dX12_init_302 bp_10 ?_
  obtain ⟨p37, e37, h⟩ := bn h
  refine i_newaqI (N := 10) S ac_int (by decide) (by decide) (by decide) e37 dX12_init_304 ?_
  refine i_putFR (x := some p37.1) S fl_X12_123 (alq_old e37 (alq_old e36 (alq_old e35 (alq_old e34 (alq_old e33 (alq_old e32 (alq_old e31 (alq_old e30 (alq_old e29 (alq_old e28 (alq_old e27 (alq_old e26 (alq_old e25 (alq_old e24 (alq_old e23 (alq_old e22 (alq_old e21 (alq_old e20 (alq_old e19 (alq_old e18 (alq_old e17 (alq_old e16 (alq_old e15 (alq_old e14 (alq_old e13 (alq_old e12 (alq_old e11 (alq_old e10 (alq_old e9 (alq_old e8 (alq_old e7 (alq_old e6 (alq_old e5 (alq_old e4 (alq_old e3 hk2))))))))))))))))))))))))))))))))))) rfl rfl (fun C T h => ci_d12 h 59 (by decide)) rfl rfl dX12_init_306 ?_
  refine i_aload_n S dX12_init_309 rfl ?_
  refine i_iconst (v := 4) S dX12_init_310 ic_4 ?_
  obtain ⟨p38, e38, h⟩ := bn h
  refine i_newaqI (N := 4) S ac_int (by decide) (by decide) (by decide) e38 dX12_init_311 ?_
  refine i_putFR (x := some p38.1) S fl_X12_126 (alq_old e38 (alq_old e37 (alq_old e36 (alq_old e35 (alq_old e34 (alq_old e33 (alq_old e32 (alq_old e31 (alq_old e30 (alq_old e29 (alq_old e28 (alq_old e27 (alq_old e26 (alq_old e25 (alq_old e24 (alq_old e23 (alq_old e22 (alq_old e21 (alq_old e20 (alq_old e19 (alq_old e18 (alq_old e17 (alq_old e16 (alq_old e15 (alq_old e14 (alq_old e13 (alq_old e12 (alq_old e11 (alq_old e10 (alq_old e9 (alq_old e8 (alq_old e7 (alq_old e6 (alq_old e5 (alq_old e4 (alq_old e3 hk2)))))))))))))))))))))))))))))))))))) rfl rfl (fun C T h => ci_d12 h 60 (by decide)) rfl rfl dX12_init_313 ?_
  refine i_aload_n S dX12_init_316 rfl ?_
  refine i_bipush (v := 64) S dX12_init_317 bp_64 ?_
  obtain ⟨p39, e39, h⟩ := bn h
  refine i_newaqI (N := 64) S ac_int (by decide) (by decide) (by decide) e39 dX12_init_319 ?_
  refine i_putFR (x := some p39.1) S fl_X12_129 (alq_old e39 (alq_old e38 (alq_old e37 (alq_old e36 (alq_old e35 (alq_old e34 (alq_old e33 (alq_old e32 (alq_old e31 (alq_old e30 (alq_old e29 (alq_old e28 (alq_old e27 (alq_old e26 (alq_old e25 (alq_old e24 (alq_old e23 (alq_old e22 (alq_old e21 (alq_old e20 (alq_old e19 (alq_old e18 (alq_old e17 (alq_old e16 (alq_old e15 (alq_old e14 (alq_old e13 (alq_old e12 (alq_old e11 (alq_old e10 (alq_old e9 (alq_old e8 (alq_old e7 (alq_old e6 (alq_old e5 (alq_old e4 (alq_old e3 hk2))))))))))))))))))))))))))))))))))))) rfl rfl (fun C T h => ci_d12 h 61 (by decide)) rfl rfl dX12_init_321 ?_
  refine i_aload_n S dX12_init_324 rfl ?_
  refine i_bipush (v := 64) S dX12_init_325 bp_64 ?_
  obtain ⟨p40, e40, h⟩ := bn h
  refine i_newaqI (N := 64) S ac_int (by decide) (by decide) (by decide) e40 dX12_init_327 ?_
  refine i_putFR (x := some p40.1) S fl_X12_132 (alq_old e40 (alq_old e39 (alq_old e38 (alq_old e37 (alq_old e36 (alq_old e35 (alq_old e34 (alq_old e33 (alq_old e32 (alq_old e31 (alq_old e30 (alq_old e29 (alq_old e28 (alq_old e27 (alq_old e26 (alq_old e25 (alq_old e24 (alq_old e23 (alq_old e22 (alq_old e21 (alq_old e20 (alq_old e19 (alq_old e18 (alq_old e17 (alq_old e16 (alq_old e15 (alq_old e14 (alq_old e13 (alq_old e12 (alq_old e11 (alq_old e10 (alq_old e9 (alq_old e8 (alq_old e7 (alq_old e6 (alq_old e5 (alq_old e4 (alq_old e3 hk2)))))))))))))))))))))))))))))))))))))) rfl rfl (fun C T h => ci_d12 h 63 (by decide)) rfl rfl dX12_init_329 ?_
  cases h
  exact i_vret S0 dX12_init_332
/-! WordYearModel.lies -/
noncomputable def f_X12_lies (x0 : Int64) (x2 : Int64) (x4 : Int64) : Int32 := if x0 < x2 then ((0 : Int32)) else (if x4 < x0 then ((0 : Int32)) else ((1 : Int32)))
set_option maxHeartbeats 4000000 in
set_option maxRecDepth 100000 in
theorem c_X12_lies (g : Gx) (d : Nat) {x0 : Int64} {x2 : Int64} {x4 : Int64} {w : Mm} {p : Int32}  (h : f_X12_lies x0 x2 x4 = p) : Call g (d + 1) yX12_lies cX12_lies 6 (some .boolean) [.long x0, .long x2, .long x4] w (some (.int p)) w := by
  refine call_of (L0 := [some (.long x0), none, some (.long x2), none, some (.long x4), none]) (by decide) rfl (Nat.le_of_ble_eq_true rfl) (fun V S0 => ?_)
  have S := S0.b
  unfold f_X12_lies at h
  refine i_lload_n S dX12_lies_0 rfl ?_
  refine i_lload_n S dX12_lies_1 rfl ?_
  refine i_lc_lt (tgt := 17) S dX12_lies_2 dX12_lies_3 (by decide) (fun q1 => ?_) (fun q1 => ?_)
  · replace h := (if_pos q1).symm.trans h
    refine i_iconst (v := 0) S dX12_lies_17 ic_0 ?_
    subst h
    exact i_iret S0 rfl dX12_lies_18
  · replace h := (if_neg q1).symm.trans h
    refine i_lload_n S dX12_lies_6 rfl ?_
    refine i_lload S dX12_lies_7 rfl ?_
    refine i_lc_gt (tgt := 17) S dX12_lies_9 dX12_lies_10 (by decide) (fun q2 => ?_) (fun q2 => ?_)
    · replace h := (if_pos q2).symm.trans h
      refine i_iconst (v := 0) S dX12_lies_17 ic_0 ?_
      subst h
      exact i_iret S0 rfl dX12_lies_18
    · replace h := (if_neg q2).symm.trans h
      refine i_iconst (v := 1) S dX12_lies_13 ic_1 ?_
      refine i_goto (tgt := 18) S dX12_lies_14 (by decide) ?_
      subst h
      exact i_iret S0 rfl dX12_lies_18
theorem b_X12_lies (x0 : Int64) (x2 : Int64) (x4 : Int64) : isB (f_X12_lies x0 x2 x4) = true := by
  unfold f_X12_lies
  repeat' split
  all_goals first | rfl
/-! WordYearModel.has -/
noncomputable def f_X12_has (x0 : Int32) (x1 : Int32) : Int32 := if ((x0 >>> (x1 &&& 31)) &&& (1 : Int32)) = (1 : Int32) then ((1 : Int32)) else ((0 : Int32))
set_option maxHeartbeats 4000000 in
set_option maxRecDepth 100000 in
theorem c_X12_has (g : Gx) (d : Nat) {x0 : Int32} {x1 : Int32} {w : Mm} {p : Int32}  (h : f_X12_has x0 x1 = p) : Call g (d + 1) yX12_has cX12_has 2 (some .boolean) [.int x0, .int x1] w (some (.int p)) w := by
  refine call_of (L0 := [some (.int x0), some (.int x1)]) (by decide) rfl (Nat.le_of_ble_eq_true rfl) (fun V S0 => ?_)
  have S := S0.b
  unfold f_X12_has at h
  refine i_iload_n S dX12_has_0 rfl ?_
  refine i_iload_n S dX12_has_1 rfl ?_
  refine i_ishr S dX12_has_2 ?_
  refine i_iconst (v := 1) S dX12_has_3 ic_1 ?_
  refine i_iand S dX12_has_4 ?_
  refine i_iconst (v := 1) S dX12_has_5 ic_1 ?_
  refine i_icmp_ne (tgt := 13) S dX12_has_6 (by decide) (fun q1 => ?_) (fun q1 => ?_)
  · replace h := (if_neg q1).symm.trans h
    refine i_iconst (v := 0) S dX12_has_13 ic_0 ?_
    subst h
    exact i_iret S0 rfl dX12_has_14
  · replace h := (if_pos q1).symm.trans h
    refine i_iconst (v := 1) S dX12_has_9 ic_1 ?_
    refine i_goto (tgt := 14) S dX12_has_10 (by decide) ?_
    subst h
    exact i_iret S0 rfl dX12_has_14
theorem b_X12_has (x0 : Int32) (x1 : Int32) : isB (f_X12_has x0 x1) = true := by
  unfold f_X12_has
  repeat' split
  all_goals first | rfl
/-! WordYearModel.sizeOf -/
noncomputable def l_X12_sizeOf_4  (s : Int32 × Int32) : Option ((Int32 × Int32) ⊕ (Int32)) := if s.2 = 0 then (some (.inr s.1)) else (some (.inl (s.1 + (1 : Int32), s.2 &&& (s.2 - (1 : Int32)))))
noncomputable def f_X12_sizeOf (x0 : Int32) : Option Int32 := Option.bind (wh l_X12_sizeOf_4 FUEL ((0 : Int32), x0)) (fun p1 => some p1)
set_option maxHeartbeats 4000000 in
set_option maxRecDepth 100000 in
theorem t_l_X12_sizeOf_4 {g : Gx} {V : Vt} {d : Nat} (S : MachB g yX12_sizeOf cX12_sizeOf 3 (d) V)  {w : Mm}  (s : Int32 × Int32) (e : (Int32 × Int32) ⊕ (Int32)) (h : l_X12_sizeOf_4  s = some e) (hC : ∀ s2, e = .inl s2 → V 4 [none, some (.int s2.1), some (.int s2.2)] [] w) (hE : ∀ x, e = .inr x → V 20 [none, some (.int x), none] [] w) : V 4 [none, some (.int s.1), some (.int s.2)] [] w := by
  unfold l_X12_sizeOf_4 at h
  refine i_iload_n S dX12_sizeOf_4 rfl ?_
  refine i_if_eq (tgt := 20) S dX12_sizeOf_5 (by decide) (fun q1 => ?_) (fun q1 => ?_)
  · replace h := (if_pos q1).symm.trans h
    refine i_mask (L1 := [none, some (.int s.1), none]) S [false, true, false] rfl ?_
    have hz := hE _ (Option.some.inj h).symm
    exact hz
  · replace h := (if_neg q1).symm.trans h
    refine i_iinc (L1 := [none, some (.int (s.1 + (1 : Int32))), some (.int s.2)]) S dX12_sizeOf_8 rfl ic_1 (by decide) rfl ?_
    refine i_iload_n S dX12_sizeOf_11 rfl ?_
    refine i_iload_n S dX12_sizeOf_12 rfl ?_
    refine i_iconst (v := 1) S dX12_sizeOf_13 ic_1 ?_
    refine i_isub S dX12_sizeOf_14 ?_
    refine i_iand S dX12_sizeOf_15 ?_
    refine i_istore_n (L1 := [none, some (.int (s.1 + (1 : Int32))), some (.int (s.2 &&& (s.2 - (1 : Int32))))]) S dX12_sizeOf_16 (by decide) rfl ?_
    refine i_goto (tgt := 4) S dX12_sizeOf_17 (by decide) ?_
    have hz := hC _ (Option.some.inj h).symm
    exact hz
set_option maxHeartbeats 4000000 in
set_option maxRecDepth 100000 in
theorem c_X12_sizeOf (g : Gx) (d : Nat) {x0 : Int32} {w : Mm} {p : Int32}  (h : f_X12_sizeOf x0 = some p) : Call g (d + 1) yX12_sizeOf cX12_sizeOf 3 (some .int) [.int x0] w (some (.int p)) w := by
  refine call_of (L0 := [some (.int x0), none, none]) (by decide) rfl (Nat.le_of_ble_eq_true rfl) (fun V S0 => ?_)
  have S := S0.b
  unfold f_X12_sizeOf at h
  refine i_iconst (v := 0) S dX12_sizeOf_0 ic_0 ?_
  refine i_istore_n (L1 := [some (.int x0), some (.int ((0 : Int32))), none]) S dX12_sizeOf_1 (by decide) rfl ?_
  refine i_iload_n S dX12_sizeOf_2 rfl ?_
  refine i_istore_n (L1 := [some (.int x0), some (.int ((0 : Int32))), some (.int x0)]) S dX12_sizeOf_3 (by decide) rfl ?_
  refine i_mask (L1 := [none, some (.int ((0 : Int32))), some (.int x0)]) S [false, true, true] rfl ?_
  obtain ⟨p1, e1, h⟩ := bn h
  have hE1 : V 20 [none, some (.int p1), none] [] w := by
    refine i_iload_n S dX12_sizeOf_20 rfl ?_
    cases h
    exact i_iret S0 rfl dX12_sizeOf_21
  exact wh_V (P := fun sv1 => V 4 [none, some (.int sv1.1), some (.int sv1.2)] [] w) (E := fun xv1 => V 20 [none, some (.int xv1), none] [] w) (fun sv1 ev hb hc he => t_l_X12_sizeOf_4   S  sv1 ev hb hc he) FUEL _ _ e1 hE1
/-! WordYearModel.isTongue -/
noncomputable def f_X12_isTongue (x1 : Int32) (w : Mm) : Option Int32 := some (f_X12_lies x1.toInt64 (0 : Int64) ((((1 : Int32) <<< ((gI w 47 2) &&& 31)) - (1 : Int32)).toInt64))
set_option maxHeartbeats 4000000 in
set_option maxRecDepth 100000 in
theorem c_X12_isTongue (g : Gx) (d : Nat) {x1 : Int32} {w : Mm} {p : Int32} (hL : Lay w) (h : f_X12_isTongue x1 w = some p) : Call g (d + 2) yX12_isTongue cX12_isTongue 2 (some .boolean) [rf g 47, .int x1] w (some (.int p)) w := by
  refine call_of (L0 := [some (rf g 47), some (.int x1)]) (by decide) rfl (Nat.le_of_ble_eq_true rfl) (fun V S0 => ?_)
  have S := S0.b
  unfold f_X12_isTongue at h
  refine i_iload_n S dX12_isTongue_0 rfl ?_
  refine i_i2l S dX12_isTongue_1 ?_
  refine i_lconst (v := 0) S dX12_isTongue_2 lc_0 ?_
  refine i_iconst (v := 1) S dX12_isTongue_3 ic_1 ?_
  refine i_aload_n S dX12_isTongue_4 rfl ?_
  refine i_getIv (v := gI w 47 2) S fl_X12_135 (k47 hL) rfl rfl dX12_isTongue_5 ?_
  refine i_ishl S dX12_isTongue_8 ?_
  refine i_iconst (v := 1) S dX12_isTongue_9 ic_1 ?_
  refine i_isub S dX12_isTongue_10 ?_
  refine i_i2l S dX12_isTongue_11 ?_
  refine i_callS (As := [.long x1.toInt64, .long ((0 : Int64)), .long ((((1 : Int32) <<< ((gI w 47 2) &&& 31)) - (1 : Int32)).toInt64)]) (st1 := [.int (f_X12_lies x1.toInt64 (0 : Int64) ((((1 : Int32) <<< ((gI w 47 2) &&& 31)) - (1 : Int32)).toInt64))]) S (c_X12_lies g d rfl) mw_X12_lies lk_X12_138 im_X12_lies dX12_isTongue_12 rfl rfl (Nat.le_of_ble_eq_true rfl) rfl ?_
  cases h
  exact i_iret S0 (isB_n (b_X12_lies _ _ _)) dX12_isTongue_15
/-! WordYearModel.isMeaning -/
noncomputable def f_X12_isMeaning (x0 : Int32) : Int32 := f_X12_lies x0.toInt64 (0 : Int64) (63 : Int64)
set_option maxHeartbeats 4000000 in
set_option maxRecDepth 100000 in
theorem c_X12_isMeaning (g : Gx) (d : Nat) {x0 : Int32} {w : Mm} {p : Int32}  (h : f_X12_isMeaning x0 = p) : Call g (d + 2) yX12_isMeaning cX12_isMeaning 1 (some .boolean) [.int x0] w (some (.int p)) w := by
  refine call_of (L0 := [some (.int x0)]) (by decide) rfl (Nat.le_of_ble_eq_true rfl) (fun V S0 => ?_)
  have S := S0.b
  unfold f_X12_isMeaning at h
  refine i_iload_n S dX12_isMeaning_0 rfl ?_
  refine i_i2l S dX12_isMeaning_1 ?_
  refine i_lconst (v := 0) S dX12_isMeaning_2 lc_0 ?_
  refine i_ldc2 S kl_X12_142 dX12_isMeaning_3 ?_
  refine i_callS (As := [.long x0.toInt64, .long ((0 : Int64)), .long ((63 : Int64))]) (st1 := [.int (f_X12_lies x0.toInt64 (0 : Int64) (63 : Int64))]) S (c_X12_lies g d rfl) mw_X12_lies lk_X12_138 im_X12_lies dX12_isMeaning_6 rfl rfl (Nat.le_of_ble_eq_true rfl) rfl ?_
  subst h
  exact i_iret S0 (isB_n (b_X12_lies _ _ _)) dX12_isMeaning_9
theorem b_X12_isMeaning (x0 : Int32) : isB (f_X12_isMeaning x0) = true := by
  unfold f_X12_isMeaning
  repeat' split
  all_goals first | rfl | exact b_X12_lies _ _ _
/-! WordYearModel.isSort -/
noncomputable def f_X12_isSort (x0 : Int32) : Int32 := f_X12_lies x0.toInt64 (0 : Int64) (3 : Int64)
set_option maxHeartbeats 4000000 in
set_option maxRecDepth 100000 in
theorem c_X12_isSort (g : Gx) (d : Nat) {x0 : Int32} {w : Mm} {p : Int32}  (h : f_X12_isSort x0 = p) : Call g (d + 2) yX12_isSort cX12_isSort 1 (some .boolean) [.int x0] w (some (.int p)) w := by
  refine call_of (L0 := [some (.int x0)]) (by decide) rfl (Nat.le_of_ble_eq_true rfl) (fun V S0 => ?_)
  have S := S0.b
  unfold f_X12_isSort at h
  refine i_iload_n S dX12_isSort_0 rfl ?_
  refine i_i2l S dX12_isSort_1 ?_
  refine i_lconst (v := 0) S dX12_isSort_2 lc_0 ?_
  refine i_ldc2 S kl_X12_144 dX12_isSort_3 ?_
  refine i_callS (As := [.long x0.toInt64, .long ((0 : Int64)), .long ((3 : Int64))]) (st1 := [.int (f_X12_lies x0.toInt64 (0 : Int64) (3 : Int64))]) S (c_X12_lies g d rfl) mw_X12_lies lk_X12_138 im_X12_lies dX12_isSort_6 rfl rfl (Nat.le_of_ble_eq_true rfl) rfl ?_
  subst h
  exact i_iret S0 (isB_n (b_X12_lies _ _ _)) dX12_isSort_9
theorem b_X12_isSort (x0 : Int32) : isB (f_X12_isSort x0) = true := by
  unfold f_X12_isSort
  repeat' split
  all_goals first | rfl | exact b_X12_lies _ _ _
/-! WordYearModel.isUsed -/
noncomputable def f_X12_isUsed (x1 : Int32) (w : Mm) : Option Int32 := if (f_X12_lies x1.toInt64 (0 : Int64) (((gI w 47 2) - (1 : Int32)).toInt64)) = 0 then (some (0 : Int32)) else (if (f_X12_has (gI w 47 6) x1) = 0 then (some (0 : Int32)) else (some (1 : Int32)))
set_option maxHeartbeats 4000000 in
set_option maxRecDepth 100000 in
theorem c_X12_isUsed (g : Gx) (d : Nat) {x1 : Int32} {w : Mm} {p : Int32} (hL : Lay w) (h : f_X12_isUsed x1 w = some p) : Call g (d + 2) yX12_isUsed cX12_isUsed 2 (some .boolean) [rf g 47, .int x1] w (some (.int p)) w := by
  refine call_of (L0 := [some (rf g 47), some (.int x1)]) (by decide) rfl (Nat.le_of_ble_eq_true rfl) (fun V S0 => ?_)
  have S := S0.b
  unfold f_X12_isUsed at h
  refine i_iload_n S dX12_isUsed_0 rfl ?_
  refine i_i2l S dX12_isUsed_1 ?_
  refine i_lconst (v := 0) S dX12_isUsed_2 lc_0 ?_
  refine i_aload_n S dX12_isUsed_3 rfl ?_
  refine i_getIv (v := gI w 47 2) S fl_X12_135 (k47 hL) rfl rfl dX12_isUsed_4 ?_
  refine i_iconst (v := 1) S dX12_isUsed_7 ic_1 ?_
  refine i_isub S dX12_isUsed_8 ?_
  refine i_i2l S dX12_isUsed_9 ?_
  refine i_callS (As := [.long x1.toInt64, .long ((0 : Int64)), .long (((gI w 47 2) - (1 : Int32)).toInt64)]) (st1 := [.int (f_X12_lies x1.toInt64 (0 : Int64) (((gI w 47 2) - (1 : Int32)).toInt64))]) S (c_X12_lies g d rfl) mw_X12_lies lk_X12_138 im_X12_lies dX12_isUsed_10 rfl rfl (Nat.le_of_ble_eq_true rfl) rfl ?_
  refine i_if_eq (tgt := 31) S dX12_isUsed_13 (by decide) (fun q1 => ?_) (fun q1 => ?_)
  · replace h := (if_pos q1).symm.trans h
    refine i_iconst (v := 0) S dX12_isUsed_31 ic_0 ?_
    cases h
    exact i_iret S0 rfl dX12_isUsed_32
  · replace h := (if_neg q1).symm.trans h
    refine i_aload_n S dX12_isUsed_16 rfl ?_
    refine i_getIv (v := gI w 47 6) S fl_X12_146 (k47 hL) rfl rfl dX12_isUsed_17 ?_
    refine i_iload_n S dX12_isUsed_20 rfl ?_
    refine i_callS (As := [.int (gI w 47 6), .int x1]) (st1 := [.int (f_X12_has (gI w 47 6) x1)]) S (c_X12_has g d rfl) mw_X12_has lk_X12_149 im_X12_has dX12_isUsed_21 rfl rfl (Nat.le_of_ble_eq_true rfl) rfl ?_
    refine i_if_eq (tgt := 31) S dX12_isUsed_24 (by decide) (fun q2 => ?_) (fun q2 => ?_)
    · replace h := (if_pos q2).symm.trans h
      refine i_iconst (v := 0) S dX12_isUsed_31 ic_0 ?_
      cases h
      exact i_iret S0 rfl dX12_isUsed_32
    · replace h := (if_neg q2).symm.trans h
      refine i_iconst (v := 1) S dX12_isUsed_27 ic_1 ?_
      refine i_goto (tgt := 32) S dX12_isUsed_28 (by decide) ?_
      cases h
      exact i_iret S0 rfl dX12_isUsed_32
/-! WordYearModel.changes -/
noncomputable def l_X12_changes_2  (s : Int32 × Mm) : Option ((Int32 × Mm) ⊕ (Mm)) := if (1024 : Int32) ≤ s.1 then (some (.inr s.2)) else (onL s.2 (if inb s.1 1024 = true then (some (.inl (s.1 + (1 : Int32), sI s.2 73 (ix s.1) (vp_nar .boolean (0 : Int32))))) else none))
noncomputable def f_X12_changes  (w : Mm) : Option Mm := Option.bind (wh l_X12_changes_2 FUEL ((0 : Int32), w)) (fun p1 => some p1)
set_option maxHeartbeats 4000000 in
set_option maxRecDepth 100000 in
theorem t_l_X12_changes_2 {g : Gx} {V : Vt} {d : Nat} (S : MachB g yX12_changes cX12_changes 2 (d) V)   (s : Int32 × Mm) (e : (Int32 × Mm) ⊕ (Mm)) (h : l_X12_changes_2  s = some e) (hC : ∀ s2, e = .inl s2 → V 2 [some (rf g 47), some (.int s2.1)] [] s2.2) (hE : ∀ x, e = .inr x → V 22 [none, none] [] x) : V 2 [some (rf g 47), some (.int s.1)] [] s.2 := by
  unfold l_X12_changes_2 at h
  refine i_iload_n S dX12_changes_2 rfl ?_
  refine i_sipush (v := 1024) S dX12_changes_3 sp_1024 ?_
  refine i_icmp_ge (tgt := 22) S dX12_changes_6 (by decide) (fun q1 => ?_) (fun q1 => ?_)
  · replace h := (if_pos q1).symm.trans h
    refine i_mask (L1 := [none, none]) S [false, false] rfl ?_
    have hz := hE _ (Option.some.inj h).symm
    exact hz
  · replace h := (if_neg q1).symm.trans h
    refine i_aload_n S dX12_changes_9 rfl ?_
    obtain ⟨hL2, h⟩ := onLn h
    refine i_getR S fl_X12_92 (k47 hL2) (r47_49 hL2) rfl dX12_changes_10 ?_
    refine i_iload_n S dX12_changes_13 rfl ?_
    refine i_iconst (v := 0) S dX12_changes_14 ic_0 ?_
    obtain ⟨hi4, h⟩ := gd h
    refine i_zast S (k73 hL2) hi4 dX12_changes_15 ?_
    refine i_iinc (L1 := [some (rf g 47), some (.int (s.1 + (1 : Int32)))]) S dX12_changes_16 rfl ic_1 (by decide) rfl ?_
    refine i_goto (tgt := 2) S dX12_changes_19 (by decide) ?_
    have hz := hC _ (Option.some.inj h).symm
    exact hz
set_option maxHeartbeats 4000000 in
set_option maxRecDepth 100000 in
theorem c_X12_changes (g : Gx) (d : Nat)  {w : Mm} {p : Mm} (hL : Lay w) (h : f_X12_changes w = some p) : Call g (d + 1) yX12_changes cX12_changes 2 none [rf g 47] w none p := by
  refine call_of (L0 := [some (rf g 47), none]) (by decide) rfl (Nat.le_of_ble_eq_true rfl) (fun V S0 => ?_)
  have S := S0.b
  unfold f_X12_changes at h
  refine i_iconst (v := 0) S dX12_changes_0 ic_0 ?_
  refine i_istore_n (L1 := [some (rf g 47), some (.int ((0 : Int32)))]) S dX12_changes_1 (by decide) rfl ?_
  obtain ⟨p1, e1, h⟩ := bn h
  have hE1 : V 22 [none, none] [] p1 := by
    cases h
    exact i_vret S0 dX12_changes_22
  exact wh_V (P := fun sv1 => V 2 [some (rf g 47), some (.int sv1.1)] [] sv1.2) (E := fun xv1 => V 22 [none, none] [] xv1) (fun sv1 ev hb hc he => t_l_X12_changes_2   S  sv1 ev hb hc he) FUEL _ _ e1 hE1
/-! WordYearModel.word -/
noncomputable def l_X12_word_110  (s : Int32 × Mm) : Option ((Int32 × Mm) ⊕ (Mm)) := if (1024 : Int32) ≤ s.1 then (some (.inr s.2)) else (onL s.2 (if inb s.1 1024 = true then (some (.inl (s.1 + (1 : Int32), sI s.2 71 (ix s.1) (vp_nar .boolean (0 : Int32))))) else none))
noncomputable def f_X12_word (x1 : Int32) (x2 : Int32) (x3 : Int32) (w : Mm) : Option (Int32 × Mm) := if (gI w 47 2) = (10 : Int32) then (some ((-1 : Int32), w)) else (if (f_X12_lies x1.toInt64 (0 : Int64) (3 : Int64)) = 0 then (some ((-1 : Int32), w)) else (if (f_X12_isMeaning x2) = 0 then (some ((-1 : Int32), w)) else (if (f_X12_lies x3.toInt64 (1 : Int64) (9 : Int64)) = 0 then (some ((-1 : Int32), w)) else (if inb (gI w 47 2) 10 = true then (Option.bind (wh l_X12_word_110 FUEL ((0 : Int32), sI (sI (sI (sI (sI (sI w 49 (ix (gI w 47 2)) x1) 50 (ix (gI w 47 2)) x2) 51 (ix (gI w 47 2)) x3) 52 (ix (gI w 47 2)) (-1 : Int32)) 47 6 ((gI w 47 6) ||| ((1 : Int32) <<< ((gI w 47 2) &&& 31)))) 47 2 ((gI w 47 2) + (1 : Int32)))) (fun p10 => onL p10 (Option.bind (f_X12_changes p10) (fun p12 => onL p12 (some ((gI p12 47 2) - (1 : Int32), p12)))))) else none))))
set_option maxHeartbeats 4000000 in
set_option maxRecDepth 100000 in
theorem t_l_X12_word_110 {g : Gx} {V : Vt} {d : Nat} (S : MachB g yX12_word cX12_word 5 (d + 2) V)   (s : Int32 × Mm) (e : (Int32 × Mm) ⊕ (Mm)) (h : l_X12_word_110  s = some e) (hC : ∀ s2, e = .inl s2 → V 110 [some (rf g 47), none, none, none, some (.int s2.1)] [] s2.2) (hE : ∀ x, e = .inr x → V 132 [some (rf g 47), none, none, none, none] [] x) : V 110 [some (rf g 47), none, none, none, some (.int s.1)] [] s.2 := by
  unfold l_X12_word_110 at h
  refine i_iload S dX12_word_110 rfl ?_
  refine i_sipush (v := 1024) S dX12_word_112 sp_1024 ?_
  refine i_icmp_ge (tgt := 132) S dX12_word_115 (by decide) (fun q1 => ?_) (fun q1 => ?_)
  · replace h := (if_pos q1).symm.trans h
    refine i_mask (L1 := [some (rf g 47), none, none, none, none]) S [true, false, false, false, false] rfl ?_
    have hz := hE _ (Option.some.inj h).symm
    exact hz
  · replace h := (if_neg q1).symm.trans h
    refine i_aload_n S dX12_word_118 rfl ?_
    obtain ⟨hL2, h⟩ := onLn h
    refine i_getR S fl_X12_85 (k47 hL2) (r47_43 hL2) rfl dX12_word_119 ?_
    refine i_iload S dX12_word_122 rfl ?_
    refine i_iconst (v := 0) S dX12_word_124 ic_0 ?_
    obtain ⟨hi4, h⟩ := gd h
    refine i_zast S (k71 hL2) hi4 dX12_word_125 ?_
    refine i_iinc (L1 := [some (rf g 47), none, none, none, some (.int (s.1 + (1 : Int32)))]) S dX12_word_126 rfl ic_1 (by decide) rfl ?_
    refine i_goto (tgt := 110) S dX12_word_129 (by decide) ?_
    have hz := hC _ (Option.some.inj h).symm
    exact hz
set_option maxHeartbeats 4000000 in
set_option maxRecDepth 100000 in
theorem c_X12_word (g : Gx) (d : Nat) {x1 : Int32} {x2 : Int32} {x3 : Int32} {w : Mm} {p : (Int32 × Mm)} (hL : Lay w) (h : f_X12_word x1 x2 x3 w = some p) : Call g (d + 3) yX12_word cX12_word 5 (some .int) [rf g 47, .int x1, .int x2, .int x3] w (some (.int p.1)) p.2 := by
  refine call_of (L0 := [some (rf g 47), some (.int x1), some (.int x2), some (.int x3), none]) (by decide) rfl (Nat.le_of_ble_eq_true rfl) (fun V S0 => ?_)
  have S := S0.b
  unfold f_X12_word at h
  refine i_aload_n S dX12_word_0 rfl ?_
  refine i_getIv (v := gI w 47 2) S fl_X12_135 (k47 hL) rfl rfl dX12_word_1 ?_
  refine i_bipush (v := 10) S dX12_word_4 bp_10 ?_
  refine i_icmp_eq (tgt := 40) S dX12_word_6 (by decide) (fun q1 => ?_) (fun q1 => ?_)
  · replace h := (if_pos q1).symm.trans h
    refine i_iconst (v := -1) S dX12_word_40 ic_m1 ?_
    cases h
    exact i_iret S0 rfl dX12_word_41
  · replace h := (if_neg q1).symm.trans h
    refine i_iload_n S dX12_word_9 rfl ?_
    refine i_i2l S dX12_word_10 ?_
    refine i_lconst (v := 0) S dX12_word_11 lc_0 ?_
    refine i_ldc2 S kl_X12_144 dX12_word_12 ?_
    refine i_callS (As := [.long x1.toInt64, .long ((0 : Int64)), .long ((3 : Int64))]) (st1 := [.int (f_X12_lies x1.toInt64 (0 : Int64) (3 : Int64))]) S (c_X12_lies g (d + 1) rfl) mw_X12_lies lk_X12_138 im_X12_lies dX12_word_15 rfl rfl (Nat.le_of_ble_eq_true rfl) rfl ?_
    refine i_if_eq (tgt := 40) S dX12_word_18 (by decide) (fun q2 => ?_) (fun q2 => ?_)
    · replace h := (if_pos q2).symm.trans h
      refine i_iconst (v := -1) S dX12_word_40 ic_m1 ?_
      cases h
      exact i_iret S0 rfl dX12_word_41
    · replace h := (if_neg q2).symm.trans h
      refine i_iload_n S dX12_word_21 rfl ?_
      refine i_callS (As := [.int x2]) (st1 := [.int (f_X12_isMeaning x2)]) S (c_X12_isMeaning g d rfl) mw_X12_isMeaning lk_X12_153 im_X12_isMeaning dX12_word_22 rfl rfl (Nat.le_of_ble_eq_true rfl) rfl ?_
      refine i_if_eq (tgt := 40) S dX12_word_25 (by decide) (fun q3 => ?_) (fun q3 => ?_)
      · replace h := (if_pos q3).symm.trans h
        refine i_iconst (v := -1) S dX12_word_40 ic_m1 ?_
        cases h
        exact i_iret S0 rfl dX12_word_41
      · replace h := (if_neg q3).symm.trans h
        refine i_iload_n S dX12_word_28 rfl ?_
        refine i_i2l S dX12_word_29 ?_
        refine i_lconst (v := 1) S dX12_word_30 lc_1 ?_
        refine i_ldc2 S kl_X12_157 dX12_word_31 ?_
        refine i_callS (As := [.long x3.toInt64, .long ((1 : Int64)), .long ((9 : Int64))]) (st1 := [.int (f_X12_lies x3.toInt64 (1 : Int64) (9 : Int64))]) S (c_X12_lies g (d + 1) rfl) mw_X12_lies lk_X12_138 im_X12_lies dX12_word_34 rfl rfl (Nat.le_of_ble_eq_true rfl) rfl ?_
        refine i_if_ne (tgt := 42) S dX12_word_37 (by decide) (fun q4 => ?_) (fun q4 => ?_)
        · replace h := (if_neg q4).symm.trans h
          refine i_aload_n S dX12_word_42 rfl ?_
          refine i_getR S fl_X12_17 (k47 hL) (r47_8 hL) rfl dX12_word_43 ?_
          refine i_aload_n S dX12_word_46 rfl ?_
          refine i_getIv (v := gI w 47 2) S fl_X12_135 (k47 hL) rfl rfl dX12_word_47 ?_
          refine i_iload_n S dX12_word_50 rfl ?_
          obtain ⟨hi6, h⟩ := gd h
          refine i_iast S (k49 hL) hi6 dX12_word_51 ?_
          refine i_aload_n S dX12_word_52 rfl ?_
          refine i_getR S fl_X12_21 (k47 hL) (r47_9 hL) rfl dX12_word_53 ?_
          refine i_aload_n S dX12_word_56 rfl ?_
          refine i_getIv (v := gI w 47 2) S fl_X12_135 (k47 hL) rfl rfl dX12_word_57 ?_
          refine i_iload_n S dX12_word_60 rfl ?_
          refine i_iast S (k50 hL) hi6 dX12_word_61 ?_
          refine i_aload_n S dX12_word_62 rfl ?_
          refine i_getR S fl_X12_24 (k47 hL) (r47_10 hL) rfl dX12_word_63 ?_
          refine i_aload_n S dX12_word_66 rfl ?_
          refine i_getIv (v := gI w 47 2) S fl_X12_135 (k47 hL) rfl rfl dX12_word_67 ?_
          refine i_iload_n S dX12_word_70 rfl ?_
          refine i_iast S (k51 hL) hi6 dX12_word_71 ?_
          refine i_aload_n S dX12_word_72 rfl ?_
          refine i_getR S fl_X12_27 (k47 hL) (r47_11 hL) rfl dX12_word_73 ?_
          refine i_aload_n S dX12_word_76 rfl ?_
          refine i_getIv (v := gI w 47 2) S fl_X12_135 (k47 hL) rfl rfl dX12_word_77 ?_
          refine i_iconst (v := -1) S dX12_word_80 ic_m1 ?_
          refine i_iast S (k52 hL) hi6 dX12_word_81 ?_
          refine i_aload_n S dX12_word_82 rfl ?_
          refine i_dup S dX12_word_83 rfl ?_
          refine i_getIv (v := gI w 47 6) S fl_X12_146 (k47 hL) rfl rfl dX12_word_84 ?_
          refine i_iconst (v := 1) S dX12_word_87 ic_1 ?_
          refine i_aload_n S dX12_word_88 rfl ?_
          refine i_getIv (v := gI w 47 2) S fl_X12_135 (k47 hL) rfl rfl dX12_word_89 ?_
          refine i_ishl S dX12_word_92 ?_
          refine i_ior S dX12_word_93 ?_
          refine i_putI S fl_X12_146 (k47 hL) rfl rfl rfl dX12_word_94 ?_
          refine i_aload_n S dX12_word_97 rfl ?_
          refine i_dup S dX12_word_98 rfl ?_
          refine i_getIv (v := gI w 47 2) S fl_X12_135 (k47 hL) rfl rfl dX12_word_99 ?_
          refine i_iconst (v := 1) S dX12_word_102 ic_1 ?_
          refine i_iadd S dX12_word_103 ?_
          refine i_putI S fl_X12_135 (k47 hL) rfl rfl rfl dX12_word_104 ?_
          refine i_iconst (v := 0) S dX12_word_107 ic_0 ?_
          refine i_istore (L1 := [some (rf g 47), some (.int x1), some (.int x2), some (.int x3), some (.int ((0 : Int32)))]) S dX12_word_108 (by decide) rfl ?_
          refine i_mask (L1 := [some (rf g 47), none, none, none, some (.int ((0 : Int32)))]) S [true, false, false, false, true] rfl ?_
          obtain ⟨p10, e10, h⟩ := bn h
          have hE10 : V 132 [some (rf g 47), none, none, none, none] [] p10 := by
            refine i_aload_n S dX12_word_132 rfl ?_
            obtain ⟨hL11, h⟩ := onLn h
            obtain ⟨p12, e12, h⟩ := bn h
            refine i_callV (As := []) (st1 := []) S (c_X12_changes g (d + 1) hL11 e12) mw_X12_changes lk_X12_159 im_X12_changes se_X12_changes ci_12.1 ci_12.2.1 (k47 hL11) dX12_word_133 rfl rfl (Nat.le_of_ble_eq_true rfl) rfl ?_
            refine i_aload_n S dX12_word_136 rfl ?_
            obtain ⟨hL13, h⟩ := onLn h
            refine i_getIv (v := gI p12 47 2) S fl_X12_135 (k47 hL13) rfl rfl dX12_word_137 ?_
            refine i_iconst (v := 1) S dX12_word_140 ic_1 ?_
            refine i_isub S dX12_word_141 ?_
            cases h
            exact i_iret S0 rfl dX12_word_142
          exact wh_V (P := fun sv10 => V 110 [some (rf g 47), none, none, none, some (.int sv10.1)] [] sv10.2) (E := fun xv10 => V 132 [some (rf g 47), none, none, none, none] [] xv10) (fun sv10 ev hb hc he => t_l_X12_word_110   S  sv10 ev hb hc he) FUEL _ _ e10 hE10
        · replace h := (if_pos q4).symm.trans h
          refine i_iconst (v := -1) S dX12_word_40 ic_m1 ?_
          cases h
          exact i_iret S0 rfl dX12_word_41
/-! WordYearModel.people -/
noncomputable def f_X12_people (x1 : Int32) (x2 : Int32) (w : Mm) : Option (Int32 × Mm) := if (f_X12_isSort x1) = 0 then (some ((0 : Int32), w)) else (if (f_X12_lies x2.toInt64 (0 : Int64) (1000 : Int64)) = 0 then (some ((0 : Int32), w)) else (if inb x1 4 = true then (some ((1 : Int32), sI w 53 (ix x1) x2)) else none))
set_option maxHeartbeats 4000000 in
set_option maxRecDepth 100000 in
theorem c_X12_people (g : Gx) (d : Nat) {x1 : Int32} {x2 : Int32} {w : Mm} {p : (Int32 × Mm)} (hL : Lay w) (h : f_X12_people x1 x2 w = some p) : Call g (d + 3) yX12_people cX12_people 3 (some .boolean) [rf g 47, .int x1, .int x2] w (some (.int p.1)) p.2 := by
  refine call_of (L0 := [some (rf g 47), some (.int x1), some (.int x2)]) (by decide) rfl (Nat.le_of_ble_eq_true rfl) (fun V S0 => ?_)
  have S := S0.b
  unfold f_X12_people at h
  refine i_iload_n S dX12_people_0 rfl ?_
  refine i_callS (As := [.int x1]) (st1 := [.int (f_X12_isSort x1)]) S (c_X12_isSort g d rfl) mw_X12_isSort lk_X12_162 im_X12_isSort dX12_people_1 rfl rfl (Nat.le_of_ble_eq_true rfl) rfl ?_
  refine i_if_eq (tgt := 19) S dX12_people_4 (by decide) (fun q1 => ?_) (fun q1 => ?_)
  · replace h := (if_pos q1).symm.trans h
    refine i_iconst (v := 0) S dX12_people_19 ic_0 ?_
    cases h
    exact i_iret S0 rfl dX12_people_20
  · replace h := (if_neg q1).symm.trans h
    refine i_iload_n S dX12_people_7 rfl ?_
    refine i_i2l S dX12_people_8 ?_
    refine i_lconst (v := 0) S dX12_people_9 lc_0 ?_
    refine i_ldc2 S kl_X12_165 dX12_people_10 ?_
    refine i_callS (As := [.long x2.toInt64, .long ((0 : Int64)), .long ((1000 : Int64))]) (st1 := [.int (f_X12_lies x2.toInt64 (0 : Int64) (1000 : Int64))]) S (c_X12_lies g (d + 1) rfl) mw_X12_lies lk_X12_138 im_X12_lies dX12_people_13 rfl rfl (Nat.le_of_ble_eq_true rfl) rfl ?_
    refine i_if_ne (tgt := 21) S dX12_people_16 (by decide) (fun q2 => ?_) (fun q2 => ?_)
    · replace h := (if_neg q2).symm.trans h
      refine i_aload_n S dX12_people_21 rfl ?_
      refine i_getR S fl_X12_30 (k47 hL) (r47_12 hL) rfl dX12_people_22 ?_
      refine i_iload_n S dX12_people_25 rfl ?_
      refine i_iload_n S dX12_people_26 rfl ?_
      obtain ⟨hi4, h⟩ := gd h
      refine i_iast S (k53 hL) hi4 dX12_people_27 ?_
      refine i_iconst (v := 1) S dX12_people_28 ic_1 ?_
      cases h
      exact i_iret S0 rfl dX12_people_29
    · replace h := (if_pos q2).symm.trans h
      refine i_iconst (v := 0) S dX12_people_19 ic_0 ?_
      cases h
      exact i_iret S0 rfl dX12_people_20
/-! WordYearModel.want -/
noncomputable def f_X12_want (x1 : Int32) (x2 : Int32) (x3 : Int32) (x4 : Int32) (w : Mm) : Option (Int32 × Mm) := if (gI w 47 3) = (24 : Int32) then (some ((-1 : Int32), w)) else (if (f_X12_isSort x1) = 0 then (some ((-1 : Int32), w)) else (if (f_X12_isMeaning x2) = 0 then (some ((-1 : Int32), w)) else (if (f_X12_lies x3.toInt64 (0 : Int64) (1000 : Int64)) = 0 then (some ((-1 : Int32), w)) else (if (f_X12_lies x4.toInt64 (0 : Int64) (2000 : Int64)) = 0 then (some ((-1 : Int32), w)) else (if inb (gI w 47 3) 24 = true then (Option.bind (f_X12_changes (sI (sI (sI (sI (sI w 54 (ix (gI w 47 3)) x1) 55 (ix (gI w 47 3)) x2) 56 (ix (gI w 47 3)) x3) 57 (ix (gI w 47 3)) x4) 47 3 ((gI w 47 3) + (1 : Int32)))) (fun p11 => onL p11 (some ((gI p11 47 3) - (1 : Int32), p11)))) else none)))))
set_option maxHeartbeats 4000000 in
set_option maxRecDepth 100000 in
theorem c_X12_want (g : Gx) (d : Nat) {x1 : Int32} {x2 : Int32} {x3 : Int32} {x4 : Int32} {w : Mm} {p : (Int32 × Mm)} (hL : Lay w) (h : f_X12_want x1 x2 x3 x4 w = some p) : Call g (d + 3) yX12_want cX12_want 5 (some .int) [rf g 47, .int x1, .int x2, .int x3, .int x4] w (some (.int p.1)) p.2 := by
  refine call_of (L0 := [some (rf g 47), some (.int x1), some (.int x2), some (.int x3), some (.int x4)]) (by decide) rfl (Nat.le_of_ble_eq_true rfl) (fun V S0 => ?_)
  have S := S0.b
  unfold f_X12_want at h
  refine i_aload_n S dX12_want_0 rfl ?_
  refine i_getIv (v := gI w 47 3) S fl_X12_167 (k47 hL) rfl rfl dX12_want_1 ?_
  refine i_bipush (v := 24) S dX12_want_4 bp_24 ?_
  refine i_icmp_eq (tgt := 48) S dX12_want_6 (by decide) (fun q1 => ?_) (fun q1 => ?_)
  · replace h := (if_pos q1).symm.trans h
    refine i_iconst (v := -1) S dX12_want_48 ic_m1 ?_
    cases h
    exact i_iret S0 rfl dX12_want_49
  · replace h := (if_neg q1).symm.trans h
    refine i_iload_n S dX12_want_9 rfl ?_
    refine i_callS (As := [.int x1]) (st1 := [.int (f_X12_isSort x1)]) S (c_X12_isSort g d rfl) mw_X12_isSort lk_X12_162 im_X12_isSort dX12_want_10 rfl rfl (Nat.le_of_ble_eq_true rfl) rfl ?_
    refine i_if_eq (tgt := 48) S dX12_want_13 (by decide) (fun q2 => ?_) (fun q2 => ?_)
    · replace h := (if_pos q2).symm.trans h
      refine i_iconst (v := -1) S dX12_want_48 ic_m1 ?_
      cases h
      exact i_iret S0 rfl dX12_want_49
    · replace h := (if_neg q2).symm.trans h
      refine i_iload_n S dX12_want_16 rfl ?_
      refine i_callS (As := [.int x2]) (st1 := [.int (f_X12_isMeaning x2)]) S (c_X12_isMeaning g d rfl) mw_X12_isMeaning lk_X12_153 im_X12_isMeaning dX12_want_17 rfl rfl (Nat.le_of_ble_eq_true rfl) rfl ?_
      refine i_if_eq (tgt := 48) S dX12_want_20 (by decide) (fun q3 => ?_) (fun q3 => ?_)
      · replace h := (if_pos q3).symm.trans h
        refine i_iconst (v := -1) S dX12_want_48 ic_m1 ?_
        cases h
        exact i_iret S0 rfl dX12_want_49
      · replace h := (if_neg q3).symm.trans h
        refine i_iload_n S dX12_want_23 rfl ?_
        refine i_i2l S dX12_want_24 ?_
        refine i_lconst (v := 0) S dX12_want_25 lc_0 ?_
        refine i_ldc2 S kl_X12_165 dX12_want_26 ?_
        refine i_callS (As := [.long x3.toInt64, .long ((0 : Int64)), .long ((1000 : Int64))]) (st1 := [.int (f_X12_lies x3.toInt64 (0 : Int64) (1000 : Int64))]) S (c_X12_lies g (d + 1) rfl) mw_X12_lies lk_X12_138 im_X12_lies dX12_want_29 rfl rfl (Nat.le_of_ble_eq_true rfl) rfl ?_
        refine i_if_eq (tgt := 48) S dX12_want_32 (by decide) (fun q4 => ?_) (fun q4 => ?_)
        · replace h := (if_pos q4).symm.trans h
          refine i_iconst (v := -1) S dX12_want_48 ic_m1 ?_
          cases h
          exact i_iret S0 rfl dX12_want_49
        · replace h := (if_neg q4).symm.trans h
          refine i_iload S dX12_want_35 rfl ?_
          refine i_i2l S dX12_want_37 ?_
          refine i_lconst (v := 0) S dX12_want_38 lc_0 ?_
          refine i_ldc2 S kl_X12_170 dX12_want_39 ?_
          refine i_callS (As := [.long x4.toInt64, .long ((0 : Int64)), .long ((2000 : Int64))]) (st1 := [.int (f_X12_lies x4.toInt64 (0 : Int64) (2000 : Int64))]) S (c_X12_lies g (d + 1) rfl) mw_X12_lies lk_X12_138 im_X12_lies dX12_want_42 rfl rfl (Nat.le_of_ble_eq_true rfl) rfl ?_
          refine i_if_ne (tgt := 50) S dX12_want_45 (by decide) (fun q5 => ?_) (fun q5 => ?_)
          · replace h := (if_neg q5).symm.trans h
            refine i_aload_n S dX12_want_50 rfl ?_
            refine i_getR S fl_X12_33 (k47 hL) (r47_13 hL) rfl dX12_want_51 ?_
            refine i_aload_n S dX12_want_54 rfl ?_
            refine i_getIv (v := gI w 47 3) S fl_X12_167 (k47 hL) rfl rfl dX12_want_55 ?_
            refine i_iload_n S dX12_want_58 rfl ?_
            obtain ⟨hi7, h⟩ := gd h
            refine i_iast S (k54 hL) hi7 dX12_want_59 ?_
            refine i_aload_n S dX12_want_60 rfl ?_
            refine i_getR S fl_X12_36 (k47 hL) (r47_14 hL) rfl dX12_want_61 ?_
            refine i_aload_n S dX12_want_64 rfl ?_
            refine i_getIv (v := gI w 47 3) S fl_X12_167 (k47 hL) rfl rfl dX12_want_65 ?_
            refine i_iload_n S dX12_want_68 rfl ?_
            refine i_iast S (k55 hL) hi7 dX12_want_69 ?_
            refine i_aload_n S dX12_want_70 rfl ?_
            refine i_getR S fl_X12_39 (k47 hL) (r47_15 hL) rfl dX12_want_71 ?_
            refine i_aload_n S dX12_want_74 rfl ?_
            refine i_getIv (v := gI w 47 3) S fl_X12_167 (k47 hL) rfl rfl dX12_want_75 ?_
            refine i_iload_n S dX12_want_78 rfl ?_
            refine i_iast S (k56 hL) hi7 dX12_want_79 ?_
            refine i_aload_n S dX12_want_80 rfl ?_
            refine i_getR S fl_X12_42 (k47 hL) (r47_16 hL) rfl dX12_want_81 ?_
            refine i_aload_n S dX12_want_84 rfl ?_
            refine i_getIv (v := gI w 47 3) S fl_X12_167 (k47 hL) rfl rfl dX12_want_85 ?_
            refine i_iload S dX12_want_88 rfl ?_
            refine i_iast S (k57 hL) hi7 dX12_want_90 ?_
            refine i_aload_n S dX12_want_91 rfl ?_
            refine i_dup S dX12_want_92 rfl ?_
            refine i_getIv (v := gI w 47 3) S fl_X12_167 (k47 hL) rfl rfl dX12_want_93 ?_
            refine i_iconst (v := 1) S dX12_want_96 ic_1 ?_
            refine i_iadd S dX12_want_97 ?_
            refine i_putI S fl_X12_167 (k47 hL) rfl rfl rfl dX12_want_98 ?_
            refine i_aload_n S dX12_want_101 rfl ?_
            obtain ⟨p11, e11, h⟩ := bn h
            refine i_callV (As := []) (st1 := []) S (c_X12_changes g (d + 1) hL e11) mw_X12_changes lk_X12_159 im_X12_changes se_X12_changes ci_12.1 ci_12.2.1 (k47 hL) dX12_want_102 rfl rfl (Nat.le_of_ble_eq_true rfl) rfl ?_
            refine i_aload_n S dX12_want_105 rfl ?_
            obtain ⟨hL12, h⟩ := onLn h
            refine i_getIv (v := gI p11 47 3) S fl_X12_167 (k47 hL12) rfl rfl dX12_want_106 ?_
            refine i_iconst (v := 1) S dX12_want_109 ic_1 ?_
            refine i_isub S dX12_want_110 ?_
            cases h
            exact i_iret S0 rfl dX12_want_111
          · replace h := (if_pos q5).symm.trans h
            refine i_iconst (v := -1) S dX12_want_48 ic_m1 ?_
            cases h
            exact i_iret S0 rfl dX12_want_49
/-! WordYearModel.often -/
noncomputable def f_X12_often (x1 : Int32) (x2 : Int32) (w : Mm) : Option (Int32 × Mm) := if (f_X12_lies x1.toInt64 (0 : Int64) (((gI w 47 3) - (1 : Int32)).toInt64)) = 0 then (some ((0 : Int32), w)) else (if (f_X12_lies x2.toInt64 (0 : Int64) (1000 : Int64)) = 0 then (some ((0 : Int32), w)) else (if inb x1 24 = true then (Option.bind (f_X12_changes (sI w 56 (ix x1) x2)) (fun p5 => some ((1 : Int32), p5))) else none))
set_option maxHeartbeats 4000000 in
set_option maxRecDepth 100000 in
theorem c_X12_often (g : Gx) (d : Nat) {x1 : Int32} {x2 : Int32} {w : Mm} {p : (Int32 × Mm)} (hL : Lay w) (h : f_X12_often x1 x2 w = some p) : Call g (d + 2) yX12_often cX12_often 3 (some .boolean) [rf g 47, .int x1, .int x2] w (some (.int p.1)) p.2 := by
  refine call_of (L0 := [some (rf g 47), some (.int x1), some (.int x2)]) (by decide) rfl (Nat.le_of_ble_eq_true rfl) (fun V S0 => ?_)
  have S := S0.b
  unfold f_X12_often at h
  refine i_iload_n S dX12_often_0 rfl ?_
  refine i_i2l S dX12_often_1 ?_
  refine i_lconst (v := 0) S dX12_often_2 lc_0 ?_
  refine i_aload_n S dX12_often_3 rfl ?_
  refine i_getIv (v := gI w 47 3) S fl_X12_167 (k47 hL) rfl rfl dX12_often_4 ?_
  refine i_iconst (v := 1) S dX12_often_7 ic_1 ?_
  refine i_isub S dX12_often_8 ?_
  refine i_i2l S dX12_often_9 ?_
  refine i_callS (As := [.long x1.toInt64, .long ((0 : Int64)), .long (((gI w 47 3) - (1 : Int32)).toInt64)]) (st1 := [.int (f_X12_lies x1.toInt64 (0 : Int64) (((gI w 47 3) - (1 : Int32)).toInt64))]) S (c_X12_lies g d rfl) mw_X12_lies lk_X12_138 im_X12_lies dX12_often_10 rfl rfl (Nat.le_of_ble_eq_true rfl) rfl ?_
  refine i_if_eq (tgt := 28) S dX12_often_13 (by decide) (fun q1 => ?_) (fun q1 => ?_)
  · replace h := (if_pos q1).symm.trans h
    refine i_iconst (v := 0) S dX12_often_28 ic_0 ?_
    cases h
    exact i_iret S0 rfl dX12_often_29
  · replace h := (if_neg q1).symm.trans h
    refine i_iload_n S dX12_often_16 rfl ?_
    refine i_i2l S dX12_often_17 ?_
    refine i_lconst (v := 0) S dX12_often_18 lc_0 ?_
    refine i_ldc2 S kl_X12_165 dX12_often_19 ?_
    refine i_callS (As := [.long x2.toInt64, .long ((0 : Int64)), .long ((1000 : Int64))]) (st1 := [.int (f_X12_lies x2.toInt64 (0 : Int64) (1000 : Int64))]) S (c_X12_lies g d rfl) mw_X12_lies lk_X12_138 im_X12_lies dX12_often_22 rfl rfl (Nat.le_of_ble_eq_true rfl) rfl ?_
    refine i_if_ne (tgt := 30) S dX12_often_25 (by decide) (fun q2 => ?_) (fun q2 => ?_)
    · replace h := (if_neg q2).symm.trans h
      refine i_aload_n S dX12_often_30 rfl ?_
      refine i_getR S fl_X12_39 (k47 hL) (r47_15 hL) rfl dX12_often_31 ?_
      refine i_iload_n S dX12_often_34 rfl ?_
      refine i_iload_n S dX12_often_35 rfl ?_
      obtain ⟨hi4, h⟩ := gd h
      refine i_iast S (k56 hL) hi4 dX12_often_36 ?_
      refine i_aload_n S dX12_often_37 rfl ?_
      obtain ⟨p5, e5, h⟩ := bn h
      refine i_callV (As := []) (st1 := []) S (c_X12_changes g d hL e5) mw_X12_changes lk_X12_159 im_X12_changes se_X12_changes ci_12.1 ci_12.2.1 (k47 hL) dX12_often_38 rfl rfl (Nat.le_of_ble_eq_true rfl) rfl ?_
      refine i_iconst (v := 1) S dX12_often_41 ic_1 ?_
      cases h
      exact i_iret S0 rfl dX12_often_42
    · replace h := (if_pos q2).symm.trans h
      refine i_iconst (v := 0) S dX12_often_28 ic_0 ?_
      cases h
      exact i_iret S0 rfl dX12_often_29
/-! WordYearModel.silence -/
noncomputable def f_X12_silence (x1 : Int32) (w : Mm) : Option (Int32 × Mm) := if (f_X12_lies x1.toInt64 (0 : Int64) (5000 : Int64)) = 0 then (some ((0 : Int32), w)) else (Option.bind (f_X12_changes (sI w 47 5 x1)) (fun p2 => some ((1 : Int32), p2)))
set_option maxHeartbeats 4000000 in
set_option maxRecDepth 100000 in
theorem c_X12_silence (g : Gx) (d : Nat) {x1 : Int32} {w : Mm} {p : (Int32 × Mm)} (hL : Lay w) (h : f_X12_silence x1 w = some p) : Call g (d + 2) yX12_silence cX12_silence 2 (some .boolean) [rf g 47, .int x1] w (some (.int p.1)) p.2 := by
  refine call_of (L0 := [some (rf g 47), some (.int x1)]) (by decide) rfl (Nat.le_of_ble_eq_true rfl) (fun V S0 => ?_)
  have S := S0.b
  unfold f_X12_silence at h
  refine i_iload_n S dX12_silence_0 rfl ?_
  refine i_i2l S dX12_silence_1 ?_
  refine i_lconst (v := 0) S dX12_silence_2 lc_0 ?_
  refine i_ldc2 S kl_X12_172 dX12_silence_3 ?_
  refine i_callS (As := [.long x1.toInt64, .long ((0 : Int64)), .long ((5000 : Int64))]) (st1 := [.int (f_X12_lies x1.toInt64 (0 : Int64) (5000 : Int64))]) S (c_X12_lies g d rfl) mw_X12_lies lk_X12_138 im_X12_lies dX12_silence_6 rfl rfl (Nat.le_of_ble_eq_true rfl) rfl ?_
  refine i_if_ne (tgt := 14) S dX12_silence_9 (by decide) (fun q1 => ?_) (fun q1 => ?_)
  · replace h := (if_neg q1).symm.trans h
    refine i_aload_n S dX12_silence_14 rfl ?_
    refine i_iload_n S dX12_silence_15 rfl ?_
    refine i_putI S fl_X12_13 (k47 hL) rfl rfl rfl dX12_silence_16 ?_
    refine i_aload_n S dX12_silence_19 rfl ?_
    obtain ⟨p2, e2, h⟩ := bn h
    refine i_callV (As := []) (st1 := []) S (c_X12_changes g d hL e2) mw_X12_changes lk_X12_159 im_X12_changes se_X12_changes ci_12.1 ci_12.2.1 (k47 hL) dX12_silence_20 rfl rfl (Nat.le_of_ble_eq_true rfl) rfl ?_
    refine i_iconst (v := 1) S dX12_silence_23 ic_1 ?_
    cases h
    exact i_iret S0 rfl dX12_silence_24
  · replace h := (if_pos q1).symm.trans h
    refine i_iconst (v := 0) S dX12_silence_12 ic_0 ?_
    cases h
    exact i_iret S0 rfl dX12_silence_13
/-! WordYearModel.push -/
noncomputable def l_X12_push_3 (x1 : Int32) (s : Int32 × Mm) : Option ((Int32 × Mm) ⊕ (Mm)) := if s.1 < 0 then (some (.inr s.2)) else (onL s.2 (if inb (gI s.2 47 1) 300 = true then (some (.inl (s.1 + (-8 : Int32), sI (sI s.2 48 (ix (gI s.2 47 1)) (vp_nar .byte ((x1 >>> (s.1 &&& 31)).toInt8.toInt32))) 47 1 ((gI s.2 47 1) + (1 : Int32))))) else none))
noncomputable def f_X12_push (x1 : Int32) (w : Mm) : Option Mm := Option.bind (wh (l_X12_push_3 x1) FUEL ((24 : Int32), w)) (fun p1 => some p1)
set_option maxHeartbeats 4000000 in
set_option maxRecDepth 100000 in
theorem t_l_X12_push_3 {g : Gx} {V : Vt} {d : Nat} (S : MachB g yX12_push cX12_push 3 (d) V) {x1 : Int32}  (s : Int32 × Mm) (e : (Int32 × Mm) ⊕ (Mm)) (h : l_X12_push_3 x1 s = some e) (hC : ∀ s2, e = .inl s2 → V 3 [some (rf g 47), some (.int x1), some (.int s2.1)] [] s2.2) (hE : ∀ x, e = .inr x → V 36 [none, none, none] [] x) : V 3 [some (rf g 47), some (.int x1), some (.int s.1)] [] s.2 := by
  unfold l_X12_push_3 at h
  refine i_iload_n S dX12_push_3 rfl ?_
  refine i_if_lt (tgt := 36) S dX12_push_4 (by decide) (fun q1 => ?_) (fun q1 => ?_)
  · replace h := (if_pos q1).symm.trans h
    refine i_mask (L1 := [none, none, none]) S [false, false, false] rfl ?_
    have hz := hE _ (Option.some.inj h).symm
    exact hz
  · replace h := (if_neg q1).symm.trans h
    refine i_aload_n S dX12_push_7 rfl ?_
    obtain ⟨hL2, h⟩ := onLn h
    refine i_getR S fl_X12_7 (k47 hL2) (r47_0 hL2) rfl dX12_push_8 ?_
    refine i_aload_n S dX12_push_11 rfl ?_
    refine i_getIv (v := gI s.2 47 1) S fl_X12_174 (k47 hL2) rfl rfl dX12_push_12 ?_
    refine i_iload_n S dX12_push_15 rfl ?_
    refine i_iload_n S dX12_push_16 rfl ?_
    refine i_ishr S dX12_push_17 ?_
    refine i_i2b S dX12_push_18 ?_
    obtain ⟨hi4, h⟩ := gd h
    refine i_bast S (k48 hL2) hi4 dX12_push_19 ?_
    refine i_aload_n S dX12_push_20 rfl ?_
    refine i_dup S dX12_push_21 rfl ?_
    refine i_getIv (v := gI s.2 47 1) S fl_X12_174 (k47 hL2) rfl rfl dX12_push_22 ?_
    refine i_iconst (v := 1) S dX12_push_25 ic_1 ?_
    refine i_iadd S dX12_push_26 ?_
    refine i_putI S fl_X12_174 (k47 hL2) rfl rfl rfl dX12_push_27 ?_
    refine i_iinc (L1 := [some (rf g 47), some (.int x1), some (.int (s.1 + (-8 : Int32)))]) S dX12_push_30 rfl ic_m8 (by decide) rfl ?_
    refine i_goto (tgt := 3) S dX12_push_33 (by decide) ?_
    have hz := hC _ (Option.some.inj h).symm
    exact hz
set_option maxHeartbeats 4000000 in
set_option maxRecDepth 100000 in
theorem c_X12_push (g : Gx) (d : Nat) {x1 : Int32} {w : Mm} {p : Mm} (hL : Lay w) (h : f_X12_push x1 w = some p) : Call g (d + 1) yX12_push cX12_push 3 none [rf g 47, .int x1] w none p := by
  refine call_of (L0 := [some (rf g 47), some (.int x1), none]) (by decide) rfl (Nat.le_of_ble_eq_true rfl) (fun V S0 => ?_)
  have S := S0.b
  unfold f_X12_push at h
  refine i_bipush (v := 24) S dX12_push_0 bp_24 ?_
  refine i_istore_n (L1 := [some (rf g 47), some (.int x1), some (.int ((24 : Int32)))]) S dX12_push_2 (by decide) rfl ?_
  obtain ⟨p1, e1, h⟩ := bn h
  have hE1 : V 36 [none, none, none] [] p1 := by
    cases h
    exact i_vret S0 dX12_push_36
  exact wh_V (P := fun sv1 => V 3 [some (rf g 47), some (.int x1), some (.int sv1.1)] [] sv1.2) (E := fun xv1 => V 36 [none, none, none] [] xv1) (fun sv1 ev hb hc he => t_l_X12_push_3   S  sv1 ev hb hc he) FUEL _ _ e1 hE1
/-! WordYearModel.feed -/
noncomputable def f_X12_feed (x1 : Int32) (x2 : Int32) (x3 : Int32) (x4 : Int32) (x5 : Int32) (w : Mm) : Option (Int32 × Mm) := if ((gI w 47 1) + (20 : Int32)) ≤ (300 : Int32) then (Option.bind (f_X12_push x1 w) (fun p2 => onL p2 (Option.bind (f_X12_push x2 p2) (fun p4 => onL p4 (Option.bind (f_X12_push x3 p4) (fun p6 => onL p6 (Option.bind (f_X12_push x4 p6) (fun p8 => onL p8 (Option.bind (f_X12_push x5 p8) (fun p10 => onL p10 (some (gI p10 47 1, p10)))))))))))) else (some ((-1 : Int32), w))
set_option maxHeartbeats 4000000 in
set_option maxRecDepth 100000 in
theorem c_X12_feed (g : Gx) (d : Nat) {x1 : Int32} {x2 : Int32} {x3 : Int32} {x4 : Int32} {x5 : Int32} {w : Mm} {p : (Int32 × Mm)} (hL : Lay w) (h : f_X12_feed x1 x2 x3 x4 x5 w = some p) : Call g (d + 2) yX12_feed cX12_feed 6 (some .int) [rf g 47, .int x1, .int x2, .int x3, .int x4, .int x5] w (some (.int p.1)) p.2 := by
  refine call_of (L0 := [some (rf g 47), some (.int x1), some (.int x2), some (.int x3), some (.int x4), some (.int x5)]) (by decide) rfl (Nat.le_of_ble_eq_true rfl) (fun V S0 => ?_)
  have S := S0.b
  unfold f_X12_feed at h
  refine i_aload_n S dX12_feed_0 rfl ?_
  refine i_getIv (v := gI w 47 1) S fl_X12_174 (k47 hL) rfl rfl dX12_feed_1 ?_
  refine i_bipush (v := 20) S dX12_feed_4 bp_20 ?_
  refine i_iadd S dX12_feed_6 ?_
  refine i_sipush (v := 300) S dX12_feed_7 sp_300 ?_
  refine i_icmp_le (tgt := 15) S dX12_feed_10 (by decide) (fun q1 => ?_) (fun q1 => ?_)
  · replace h := (if_pos q1).symm.trans h
    refine i_aload_n S dX12_feed_15 rfl ?_
    refine i_iload_n S dX12_feed_16 rfl ?_
    obtain ⟨p2, e2, h⟩ := bn h
    refine i_callV (As := [.int x1]) (st1 := []) S (c_X12_push g d hL e2) mw_X12_push lk_X12_177 im_X12_push se_X12_push ci_12.1 ci_12.2.1 (k47 hL) dX12_feed_17 rfl rfl (Nat.le_of_ble_eq_true rfl) rfl ?_
    refine i_aload_n S dX12_feed_20 rfl ?_
    refine i_iload_n S dX12_feed_21 rfl ?_
    obtain ⟨hL3, h⟩ := onLn h
    obtain ⟨p4, e4, h⟩ := bn h
    refine i_callV (As := [.int x2]) (st1 := []) S (c_X12_push g d hL3 e4) mw_X12_push lk_X12_177 im_X12_push se_X12_push ci_12.1 ci_12.2.1 (k47 hL3) dX12_feed_22 rfl rfl (Nat.le_of_ble_eq_true rfl) rfl ?_
    refine i_aload_n S dX12_feed_25 rfl ?_
    refine i_iload_n S dX12_feed_26 rfl ?_
    obtain ⟨hL5, h⟩ := onLn h
    obtain ⟨p6, e6, h⟩ := bn h
    refine i_callV (As := [.int x3]) (st1 := []) S (c_X12_push g d hL5 e6) mw_X12_push lk_X12_177 im_X12_push se_X12_push ci_12.1 ci_12.2.1 (k47 hL5) dX12_feed_27 rfl rfl (Nat.le_of_ble_eq_true rfl) rfl ?_
    refine i_aload_n S dX12_feed_30 rfl ?_
    refine i_iload S dX12_feed_31 rfl ?_
    obtain ⟨hL7, h⟩ := onLn h
    obtain ⟨p8, e8, h⟩ := bn h
    refine i_callV (As := [.int x4]) (st1 := []) S (c_X12_push g d hL7 e8) mw_X12_push lk_X12_177 im_X12_push se_X12_push ci_12.1 ci_12.2.1 (k47 hL7) dX12_feed_33 rfl rfl (Nat.le_of_ble_eq_true rfl) rfl ?_
    refine i_aload_n S dX12_feed_36 rfl ?_
    refine i_iload S dX12_feed_37 rfl ?_
    obtain ⟨hL9, h⟩ := onLn h
    obtain ⟨p10, e10, h⟩ := bn h
    refine i_callV (As := [.int x5]) (st1 := []) S (c_X12_push g d hL9 e10) mw_X12_push lk_X12_177 im_X12_push se_X12_push ci_12.1 ci_12.2.1 (k47 hL9) dX12_feed_39 rfl rfl (Nat.le_of_ble_eq_true rfl) rfl ?_
    refine i_aload_n S dX12_feed_42 rfl ?_
    obtain ⟨hL11, h⟩ := onLn h
    refine i_getIv (v := gI p10 47 1) S fl_X12_174 (k47 hL11) rfl rfl dX12_feed_43 ?_
    cases h
    exact i_iret S0 rfl dX12_feed_46
  · replace h := (if_neg q1).symm.trans h
    refine i_iconst (v := -1) S dX12_feed_13 ic_m1 ?_
    cases h
    exact i_iret S0 rfl dX12_feed_14
/-! WordYearModel.here -/
noncomputable def f_X12_here  (w : Mm) : Option Int32 := if (gI w 47 29) ≤ (gI w 47 28) then (some (0 : Int32)) else (if inb (gI w 47 28) 300 = true then (some ((gI w 48 (ix (gI w 47 28))) &&& (255 : Int32))) else none)
set_option maxHeartbeats 4000000 in
set_option maxRecDepth 100000 in
theorem c_X12_here (g : Gx) (d : Nat)  {w : Mm} {p : Int32} (hL : Lay w) (h : f_X12_here w = some p) : Call g (d + 1) yX12_here cX12_here 1 (some .int) [rf g 47] w (some (.int p)) w := by
  refine call_of (L0 := [some (rf g 47)]) (by decide) rfl (Nat.le_of_ble_eq_true rfl) (fun V S0 => ?_)
  have S := S0.b
  unfold f_X12_here at h
  refine i_aload_n S dX12_here_0 rfl ?_
  refine i_getIv (v := gI w 47 28) S fl_X12_181 (k47 hL) rfl rfl dX12_here_1 ?_
  refine i_aload_n S dX12_here_4 rfl ?_
  refine i_getIv (v := gI w 47 29) S fl_X12_184 (k47 hL) rfl rfl dX12_here_5 ?_
  refine i_icmp_ge (tgt := 27) S dX12_here_8 (by decide) (fun q1 => ?_) (fun q1 => ?_)
  · replace h := (if_pos q1).symm.trans h
    refine i_iconst (v := 0) S dX12_here_27 ic_0 ?_
    cases h
    exact i_iret S0 rfl dX12_here_28
  · replace h := (if_neg q1).symm.trans h
    refine i_aload_n S dX12_here_11 rfl ?_
    refine i_getR S fl_X12_7 (k47 hL) (r47_0 hL) rfl dX12_here_12 ?_
    refine i_aload_n S dX12_here_15 rfl ?_
    refine i_getIv (v := gI w 47 28) S fl_X12_181 (k47 hL) rfl rfl dX12_here_16 ?_
    obtain ⟨hi3, h⟩ := gd h
    refine i_baldv (v := gI w 48 (ix (gI w 47 28))) S (k48 hL) hi3 rfl dX12_here_19 ?_
    refine i_sipush (v := 255) S dX12_here_20 sp_255 ?_
    refine i_iand S dX12_here_23 ?_
    refine i_goto (tgt := 28) S dX12_here_24 (by decide) ?_
    cases h
    exact i_iret S0 rfl dX12_here_28
/-! WordYearModel.wrongs -/
noncomputable def f_X12_wrongs (x1 : Int32) (x2 : Int32) (w : Mm) : Option Mm := Option.bind (if 0 ≤ (gI w 47 30) then (some (((-1000 : Int32) * x1) - x2)) else (some (gI w 47 30))) (fun p2 => some (sI w 47 30 p2))
set_option maxHeartbeats 4000000 in
set_option maxRecDepth 100000 in
theorem c_X12_wrongs (g : Gx) (d : Nat) {x1 : Int32} {x2 : Int32} {w : Mm} {p : Mm} (hL : Lay w) (h : f_X12_wrongs x1 x2 w = some p) : Call g (d + 1) yX12_wrongs cX12_wrongs 3 none [rf g 47, .int x1, .int x2] w none p := by
  refine call_of (L0 := [some (rf g 47), some (.int x1), some (.int x2)]) (by decide) rfl (Nat.le_of_ble_eq_true rfl) (fun V S0 => ?_)
  have S := S0.b
  unfold f_X12_wrongs at h
  refine i_aload_n S dX12_wrongs_0 rfl ?_
  refine i_aload_n S dX12_wrongs_1 rfl ?_
  refine i_getIv (v := gI w 47 30) S fl_X12_187 (k47 hL) rfl rfl dX12_wrongs_2 ?_
  obtain ⟨p2, e2, h⟩ := bn h
  have hj2 : ∀ q2, p2 = q2 → V 22 [none, none, none] [.int q2, rf g 47] w := by
    intro q2 hq2
    subst hq2
    refine i_putI S fl_X12_187 (k47 hL) rfl rfl rfl dX12_wrongs_22 ?_
    cases h
    exact i_vret S0 dX12_wrongs_25
  replace h := e2
  clear e2
  refine i_if_ge (tgt := 15) S dX12_wrongs_5 (by decide) (fun q1 => ?_) (fun q1 => ?_)
  · replace h := (if_pos q1).symm.trans h
    refine i_sipush (v := -1000) S dX12_wrongs_15 sp_m1000 ?_
    refine i_iload_n S dX12_wrongs_18 rfl ?_
    refine i_imul S dX12_wrongs_19 ?_
    refine i_iload_n S dX12_wrongs_20 rfl ?_
    refine i_isub S dX12_wrongs_21 ?_
    refine i_mask (L1 := [none, none, none]) S [false, false, false] rfl ?_
    have hz := hj2 _ (Option.some.inj h).symm
    exact hz
  · replace h := (if_neg q1).symm.trans h
    refine i_aload_n S dX12_wrongs_8 rfl ?_
    refine i_getIv (v := gI w 47 30) S fl_X12_187 (k47 hL) rfl rfl dX12_wrongs_9 ?_
    refine i_goto (tgt := 22) S dX12_wrongs_12 (by decide) ?_
    refine i_mask (L1 := [none, none, none]) S [false, false, false] rfl ?_
    have hz := hj2 _ (Option.some.inj h).symm
    exact hz
/-! WordYearModel.isGood -/
noncomputable def f_X12_isGood  (w : Mm) : Option Int32 := if (gI w 47 30) = 0 then (some (1 : Int32)) else (some (0 : Int32))
set_option maxHeartbeats 4000000 in
set_option maxRecDepth 100000 in
theorem c_X12_isGood (g : Gx) (d : Nat)  {w : Mm} {p : Int32} (hL : Lay w) (h : f_X12_isGood w = some p) : Call g (d + 1) yX12_isGood cX12_isGood 1 (some .boolean) [rf g 47] w (some (.int p)) w := by
  refine call_of (L0 := [some (rf g 47)]) (by decide) rfl (Nat.le_of_ble_eq_true rfl) (fun V S0 => ?_)
  have S := S0.b
  unfold f_X12_isGood at h
  refine i_aload_n S dX12_isGood_0 rfl ?_
  refine i_getIv (v := gI w 47 30) S fl_X12_187 (k47 hL) rfl rfl dX12_isGood_1 ?_
  refine i_if_ne (tgt := 11) S dX12_isGood_4 (by decide) (fun q1 => ?_) (fun q1 => ?_)
  · replace h := (if_neg q1).symm.trans h
    refine i_iconst (v := 0) S dX12_isGood_11 ic_0 ?_
    cases h
    exact i_iret S0 rfl dX12_isGood_12
  · replace h := (if_pos q1).symm.trans h
    refine i_iconst (v := 1) S dX12_isGood_7 ic_1 ?_
    refine i_goto (tgt := 12) S dX12_isGood_8 (by decide) ?_
    cases h
    exact i_iret S0 rfl dX12_isGood_12
/-! WordYearModel.emit -/
noncomputable def f_X12_emit (x1 : Int32) (x2 : Int32) (w : Mm) : Option Mm := Option.bind (f_X12_isGood w) (fun p1 => if p1 = 0 then (some w) else (if inb (gI w 47 32) 160 = true then (some (sI (sI (sI w 66 (ix (gI w 47 32)) x1) 67 (ix (gI w 47 32)) x2) 47 32 ((gI w 47 32) + (1 : Int32)))) else none))
set_option maxHeartbeats 4000000 in
set_option maxRecDepth 100000 in
theorem c_X12_emit (g : Gx) (d : Nat) {x1 : Int32} {x2 : Int32} {w : Mm} {p : Mm} (hL : Lay w) (h : f_X12_emit x1 x2 w = some p) : Call g (d + 2) yX12_emit cX12_emit 3 none [rf g 47, .int x1, .int x2] w none p := by
  refine call_of (L0 := [some (rf g 47), some (.int x1), some (.int x2)]) (by decide) rfl (Nat.le_of_ble_eq_true rfl) (fun V S0 => ?_)
  have S := S0.b
  unfold f_X12_emit at h
  refine i_aload_n S dX12_emit_0 rfl ?_
  obtain ⟨p1, e1, h⟩ := bn h
  refine i_callV (As := []) (st1 := [.int p1]) S (c_X12_isGood g d hL e1) mw_X12_isGood lk_X12_190 im_X12_isGood se_X12_isGood ci_12.1 ci_12.2.1 (k47 hL) dX12_emit_1 rfl rfl (Nat.le_of_ble_eq_true rfl) rfl ?_
  refine i_if_ne (tgt := 8) S dX12_emit_4 (by decide) (fun q2 => ?_) (fun q2 => ?_)
  · replace h := (if_neg q2).symm.trans h
    refine i_aload_n S dX12_emit_8 rfl ?_
    refine i_getR S fl_X12_69 (k47 hL) (r47_26 hL) rfl dX12_emit_9 ?_
    refine i_aload_n S dX12_emit_12 rfl ?_
    refine i_getIv (v := gI w 47 32) S fl_X12_194 (k47 hL) rfl rfl dX12_emit_13 ?_
    refine i_iload_n S dX12_emit_16 rfl ?_
    obtain ⟨hi4, h⟩ := gd h
    refine i_iast S (k66 hL) hi4 dX12_emit_17 ?_
    refine i_aload_n S dX12_emit_18 rfl ?_
    refine i_getR S fl_X12_72 (k47 hL) (r47_27 hL) rfl dX12_emit_19 ?_
    refine i_aload_n S dX12_emit_22 rfl ?_
    refine i_getIv (v := gI w 47 32) S fl_X12_194 (k47 hL) rfl rfl dX12_emit_23 ?_
    refine i_iload_n S dX12_emit_26 rfl ?_
    refine i_iast S (k67 hL) hi4 dX12_emit_27 ?_
    refine i_aload_n S dX12_emit_28 rfl ?_
    refine i_dup S dX12_emit_29 rfl ?_
    refine i_getIv (v := gI w 47 32) S fl_X12_194 (k47 hL) rfl rfl dX12_emit_30 ?_
    refine i_iconst (v := 1) S dX12_emit_33 ic_1 ?_
    refine i_iadd S dX12_emit_34 ?_
    refine i_putI S fl_X12_194 (k47 hL) rfl rfl rfl dX12_emit_35 ?_
    cases h
    exact i_vret S0 dX12_emit_38
  · replace h := (if_pos q2).symm.trans h
    cases h
    exact i_vret S0 dX12_emit_7
/-! WordYearModel.top -/
noncomputable def f_X12_top  (w : Mm) : Option Int32 := if (gI w 47 34) ≤ 0 then (some (0 : Int32)) else (if inb ((gI w 47 34) - (1 : Int32)) 200 = true then (some (gI w 68 (ix ((gI w 47 34) - (1 : Int32))))) else none)
set_option maxHeartbeats 4000000 in
set_option maxRecDepth 100000 in
theorem c_X12_top (g : Gx) (d : Nat)  {w : Mm} {p : Int32} (hL : Lay w) (h : f_X12_top w = some p) : Call g (d + 1) yX12_top cX12_top 1 (some .int) [rf g 47] w (some (.int p)) w := by
  refine call_of (L0 := [some (rf g 47)]) (by decide) rfl (Nat.le_of_ble_eq_true rfl) (fun V S0 => ?_)
  have S := S0.b
  unfold f_X12_top at h
  refine i_aload_n S dX12_top_0 rfl ?_
  refine i_getIv (v := gI w 47 34) S fl_X12_197 (k47 hL) rfl rfl dX12_top_1 ?_
  refine i_if_le (tgt := 21) S dX12_top_4 (by decide) (fun q1 => ?_) (fun q1 => ?_)
  · replace h := (if_pos q1).symm.trans h
    refine i_iconst (v := 0) S dX12_top_21 ic_0 ?_
    cases h
    exact i_iret S0 rfl dX12_top_22
  · replace h := (if_neg q1).symm.trans h
    refine i_aload_n S dX12_top_7 rfl ?_
    refine i_getR S fl_X12_75 (k47 hL) (r47_37 hL) rfl dX12_top_8 ?_
    refine i_aload_n S dX12_top_11 rfl ?_
    refine i_getIv (v := gI w 47 34) S fl_X12_197 (k47 hL) rfl rfl dX12_top_12 ?_
    refine i_iconst (v := 1) S dX12_top_15 ic_1 ?_
    refine i_isub S dX12_top_16 ?_
    obtain ⟨hi3, h⟩ := gd h
    refine i_ialdv (v := gI w 68 (ix ((gI w 47 34) - (1 : Int32)))) S (k68 hL) hi3 rfl dX12_top_17 ?_
    refine i_goto (tgt := 22) S dX12_top_18 (by decide) ?_
    cases h
    exact i_iret S0 rfl dX12_top_22
/-! WordYearModel.puts -/
noncomputable def f_X12_puts (x1 : Int32) (w : Mm) : Option Mm := if inb (gI w 47 34) 200 = true then (some (sI (sI (sI w 68 (ix (gI w 47 34)) x1) 47 34 ((gI w 47 34) + (1 : Int32))) 47 28 ((gI w 47 28) + (1 : Int32)))) else none
set_option maxHeartbeats 4000000 in
set_option maxRecDepth 100000 in
theorem c_X12_puts (g : Gx) (d : Nat) {x1 : Int32} {w : Mm} {p : Mm} (hL : Lay w) (h : f_X12_puts x1 w = some p) : Call g (d + 1) yX12_puts cX12_puts 2 none [rf g 47, .int x1] w none p := by
  refine call_of (L0 := [some (rf g 47), some (.int x1)]) (by decide) rfl (Nat.le_of_ble_eq_true rfl) (fun V S0 => ?_)
  have S := S0.b
  unfold f_X12_puts at h
  refine i_aload_n S dX12_puts_0 rfl ?_
  refine i_getR S fl_X12_75 (k47 hL) (r47_37 hL) rfl dX12_puts_1 ?_
  refine i_aload_n S dX12_puts_4 rfl ?_
  refine i_getIv (v := gI w 47 34) S fl_X12_197 (k47 hL) rfl rfl dX12_puts_5 ?_
  refine i_iload_n S dX12_puts_8 rfl ?_
  obtain ⟨hi2, h⟩ := gd h
  refine i_iast S (k68 hL) hi2 dX12_puts_9 ?_
  refine i_aload_n S dX12_puts_10 rfl ?_
  refine i_dup S dX12_puts_11 rfl ?_
  refine i_getIv (v := gI w 47 34) S fl_X12_197 (k47 hL) rfl rfl dX12_puts_12 ?_
  refine i_iconst (v := 1) S dX12_puts_15 ic_1 ?_
  refine i_iadd S dX12_puts_16 ?_
  refine i_putI S fl_X12_197 (k47 hL) rfl rfl rfl dX12_puts_17 ?_
  refine i_aload_n S dX12_puts_20 rfl ?_
  refine i_dup S dX12_puts_21 rfl ?_
  refine i_getIv (v := gI w 47 28) S fl_X12_181 (k47 hL) rfl rfl dX12_puts_22 ?_
  refine i_iconst (v := 1) S dX12_puts_25 ic_1 ?_
  refine i_iadd S dX12_puts_26 ?_
  refine i_putI S fl_X12_181 (k47 hL) rfl rfl rfl dX12_puts_27 ?_
  cases h
  exact i_vret S0 dX12_puts_30
/-! WordYearModel.opens -/
noncomputable def f_X12_opens  (w : Mm) : Option Mm := Option.bind (if (gI w 47 33) = (6 : Int32) then (Option.bind (f_X12_wrongs (5 : Int32) (gI w 47 28) w) (fun p6 => some p6)) else (some w)) (fun p2 => onL p2 (Option.bind (f_X12_here (sI p2 47 33 ((gI p2 47 33) + (1 : Int32)))) (fun p4 => Option.bind (f_X12_puts p4 (sI p2 47 33 ((gI p2 47 33) + (1 : Int32)))) (fun p5 => some p5))))
set_option maxHeartbeats 4000000 in
set_option maxRecDepth 100000 in
theorem c_X12_opens (g : Gx) (d : Nat)  {w : Mm} {p : Mm} (hL : Lay w) (h : f_X12_opens w = some p) : Call g (d + 2) yX12_opens cX12_opens 1 none [rf g 47] w none p := by
  refine call_of (L0 := [some (rf g 47)]) (by decide) rfl (Nat.le_of_ble_eq_true rfl) (fun V S0 => ?_)
  have S := S0.b
  unfold f_X12_opens at h
  refine i_aload_n S dX12_opens_0 rfl ?_
  refine i_getIv (v := gI w 47 33) S fl_X12_200 (k47 hL) rfl rfl dX12_opens_1 ?_
  refine i_bipush (v := 6) S dX12_opens_4 bp_6 ?_
  obtain ⟨p2, e2, h⟩ := bn h
  have hj2 : ∀ q2, p2 = q2 → V 18 [some (rf g 47)] [] q2 := by
    intro q2 hq2
    subst hq2
    refine i_aload_n S dX12_opens_18 rfl ?_
    refine i_dup S dX12_opens_19 rfl ?_
    obtain ⟨hL3, h⟩ := onLn h
    refine i_getIv (v := gI p2 47 33) S fl_X12_200 (k47 hL3) rfl rfl dX12_opens_20 ?_
    refine i_iconst (v := 1) S dX12_opens_23 ic_1 ?_
    refine i_iadd S dX12_opens_24 ?_
    refine i_putI S fl_X12_200 (k47 hL3) rfl rfl rfl dX12_opens_25 ?_
    refine i_aload_n S dX12_opens_28 rfl ?_
    refine i_aload_n S dX12_opens_29 rfl ?_
    obtain ⟨p4, e4, h⟩ := bn h
    refine i_callV (As := []) (st1 := [.int p4, rf g 47]) S (c_X12_here g d hL3 e4) mw_X12_here lk_X12_207 im_X12_here se_X12_here ci_12.1 ci_12.2.1 (k47 hL3) dX12_opens_30 rfl rfl (Nat.le_of_ble_eq_true rfl) rfl ?_
    obtain ⟨p5, e5, h⟩ := bn h
    refine i_callV (As := [.int p4]) (st1 := []) S (c_X12_puts g d hL3 e5) mw_X12_puts lk_X12_211 im_X12_puts se_X12_puts ci_12.1 ci_12.2.1 (k47 hL3) dX12_opens_33 rfl rfl (Nat.le_of_ble_eq_true rfl) rfl ?_
    cases h
    exact i_vret S0 dX12_opens_36
  replace h := e2
  clear e2
  refine i_icmp_ne (tgt := 18) S dX12_opens_6 (by decide) (fun q1 => ?_) (fun q1 => ?_)
  · replace h := (if_neg q1).symm.trans h
    have hz := hj2 _ (Option.some.inj h).symm
    exact hz
  · replace h := (if_pos q1).symm.trans h
    refine i_aload_n S dX12_opens_9 rfl ?_
    refine i_iconst (v := 5) S dX12_opens_10 ic_5 ?_
    refine i_aload_n S dX12_opens_11 rfl ?_
    refine i_getIv (v := gI w 47 28) S fl_X12_181 (k47 hL) rfl rfl dX12_opens_12 ?_
    obtain ⟨p6, e6, h⟩ := bn h
    refine i_callV (As := [.int ((5 : Int32)), .int (gI w 47 28)]) (st1 := []) S (c_X12_wrongs g d hL e6) mw_X12_wrongs lk_X12_203 im_X12_wrongs se_X12_wrongs ci_12.1 ci_12.2.1 (k47 hL) dX12_opens_15 rfl rfl (Nat.le_of_ble_eq_true rfl) rfl ?_
    have hz := hj2 _ (Option.some.inj h).symm
    exact hz
/-! WordYearModel.seesDigit -/
noncomputable def f_X12_seesDigit  (w : Mm) : Option Int32 := Option.bind (f_X12_here w) (fun p1 => some (f_X12_lies p1.toInt64 (48 : Int64) (57 : Int64)))
set_option maxHeartbeats 4000000 in
set_option maxRecDepth 100000 in
theorem c_X12_seesDigit (g : Gx) (d : Nat)  {w : Mm} {p : Int32} (hL : Lay w) (h : f_X12_seesDigit w = some p) : Call g (d + 2) yX12_seesDigit cX12_seesDigit 1 (some .boolean) [rf g 47] w (some (.int p)) w := by
  refine call_of (L0 := [some (rf g 47)]) (by decide) rfl (Nat.le_of_ble_eq_true rfl) (fun V S0 => ?_)
  have S := S0.b
  unfold f_X12_seesDigit at h
  refine i_aload_n S dX12_seesDigit_0 rfl ?_
  obtain ⟨p1, e1, h⟩ := bn h
  refine i_callV (As := []) (st1 := [.int p1]) S (c_X12_here g d hL e1) mw_X12_here lk_X12_207 im_X12_here se_X12_here ci_12.1 ci_12.2.1 (k47 hL) dX12_seesDigit_1 rfl rfl (Nat.le_of_ble_eq_true rfl) rfl ?_
  refine i_i2l S dX12_seesDigit_4 ?_
  refine i_ldc2 S kl_X12_214 dX12_seesDigit_5 ?_
  refine i_ldc2 S kl_X12_216 dX12_seesDigit_8 ?_
  refine i_callS (As := [.long p1.toInt64, .long ((48 : Int64)), .long ((57 : Int64))]) (st1 := [.int (f_X12_lies p1.toInt64 (48 : Int64) (57 : Int64))]) S (c_X12_lies g d rfl) mw_X12_lies lk_X12_138 im_X12_lies dX12_seesDigit_11 rfl rfl (Nat.le_of_ble_eq_true rfl) rfl ?_
  cases h
  exact i_iret S0 (isB_n (b_X12_lies _ _ _)) dX12_seesDigit_14
