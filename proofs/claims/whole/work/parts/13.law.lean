noncomputable section h13
variable {l : Launch} {B : Nat} {D : va_G} {ac : Nat → ClassId} {wa wb wt sb sL : Nat} {sx : Nat → Int32} {S : v_S} {I : v_I} {J : v_J} {F : v_F}
set_option maxRecDepth 100000 in
def f_L_law_B18 (sL : Nat) (sx : Nat → Int32) (w1 : Nat) (w2 : Nat) (s18 : Int32 × v_S × v_I × v_J × v_F) : Option ((Int32 × v_S × v_I × v_J × v_F) ⊕ (Int32 × v_S × v_I × v_J × v_F)) :=
if ((Int32.ofNat sL) - (6 : Int32)) < s18.1 then (
some (.inr (s18.1, s18.2.1, s18.2.2.1, s18.2.2.2.1, s18.2.2.2.2)))
else (
(p_sc sL sx s18.1).bind fun x_12 =>
if (x_12 &&& (63 : Int32)) = (0 : Int32) then (
(p_sc sL sx (s18.1 + (1 : Int32))).bind fun x_14 =>
(p_sc sL sx (s18.1 + (2 : Int32))).bind fun x_16 =>
(p_ob s18.2.1 9 w1).bind fun _ =>
(f_X9_hedgehog s18.2.1 s18.2.2.1 s18.2.2.2.2 w1 x_14 x_16).bind fun r_18 =>
(p_sc sL sx (s18.1 + (1 : Int32))).bind fun x_21 =>
(p_sc sL sx (s18.1 + (2 : Int32))).bind fun x_23 =>
(p_ob s18.2.1 10 w2).bind fun _ =>
(f_X10_hedgehog s18.2.1 r_18.2 s18.2.2.2.2 w2 x_21 x_23).bind fun r_25 =>
if r_18.1 = r_25.1 then (
p_let (s18.1 + (6 : Int32)) fun x_29 =>
some (.inl (x_29, s18.2.1, r_25.2, s18.2.2.2.1, s18.2.2.2.2)))
else (
none))
else if (x_12 &&& (63 : Int32)) = (1 : Int32) then (
(p_sc sL sx (s18.1 + (1 : Int32))).bind fun x_31 =>
(p_sc sL sx (s18.1 + (2 : Int32))).bind fun x_33 =>
(p_sc sL sx (s18.1 + (3 : Int32))).bind fun x_35 =>
(p_ob s18.2.1 9 w1).bind fun _ =>
(f_X9_watch s18.2.1 s18.2.2.1 s18.2.2.2.2 w1 x_31 x_33 x_35).bind fun r_37 =>
(p_sc sL sx (s18.1 + (1 : Int32))).bind fun x_40 =>
(p_sc sL sx (s18.1 + (2 : Int32))).bind fun x_42 =>
(p_sc sL sx (s18.1 + (3 : Int32))).bind fun x_44 =>
(p_ob s18.2.1 10 w2).bind fun _ =>
(f_X10_watch s18.2.1 r_37.2 s18.2.2.2.2 w2 x_40 x_42 x_44).bind fun r_46 =>
if r_37.1 = r_46.1 then (
p_let (s18.1 + (6 : Int32)) fun x_50 =>
some (.inl (x_50, s18.2.1, r_46.2, s18.2.2.2.1, s18.2.2.2.2)))
else (
none))
else if (x_12 &&& (63 : Int32)) = (2 : Int32) then (
(p_sc sL sx (s18.1 + (1 : Int32))).bind fun x_52 =>
(p_sc sL sx (s18.1 + (2 : Int32))).bind fun x_54 =>
(p_ob s18.2.1 9 w1).bind fun _ =>
(f_X9_of s18.2.1 s18.2.2.1 s18.2.2.2.1 s18.2.2.2.2 w1 x_52 x_54).bind fun r_56 =>
(p_sc sL sx (s18.1 + (1 : Int32))).bind fun x_59 =>
(p_sc sL sx (s18.1 + (2 : Int32))).bind fun x_61 =>
(p_ob s18.2.1 10 w2).bind fun _ =>
(f_X10_of s18.2.1 r_56.2.1 s18.2.2.2.2 w2 x_59 x_61).bind fun r_63 =>
if r_56.1 = r_63.1 then (
p_let (s18.1 + (6 : Int32)) fun x_67 =>
some (.inl (x_67, s18.2.1, r_63.2, r_56.2.2, s18.2.2.2.2)))
else (
none))
else if (x_12 &&& (63 : Int32)) = (3 : Int32) then (
(p_sc sL sx (s18.1 + (1 : Int32))).bind fun x_69 =>
(p_sc sL sx (s18.1 + (2 : Int32))).bind fun x_71 =>
(p_ob s18.2.1 9 w1).bind fun _ =>
(f_X9_terms s18.2.1 s18.2.2.1 s18.2.2.2.2 w1 x_69 x_71).bind fun r_73 =>
(p_sc sL sx (s18.1 + (1 : Int32))).bind fun x_76 =>
(p_sc sL sx (s18.1 + (2 : Int32))).bind fun x_78 =>
(p_ob s18.2.1 10 w2).bind fun _ =>
(f_X10_terms s18.2.1 r_73.2 s18.2.2.2.2 w2 x_76 x_78).bind fun r_80 =>
if r_73.1 = r_80.1 then (
p_let (s18.1 + (6 : Int32)) fun x_84 =>
some (.inl (x_84, s18.2.1, r_80.2, s18.2.2.2.1, s18.2.2.2.2)))
else (
none))
else if (x_12 &&& (63 : Int32)) = (4 : Int32) then (
(p_sc sL sx (s18.1 + (1 : Int32))).bind fun x_86 =>
(p_sc sL sx (s18.1 + (2 : Int32))).bind fun x_88 =>
(p_sc sL sx (s18.1 + (3 : Int32))).bind fun x_90 =>
(p_sc sL sx (s18.1 + (4 : Int32))).bind fun x_92 =>
(p_sc sL sx (s18.1 + (5 : Int32))).bind fun x_94 =>
(p_ob s18.2.1 9 w1).bind fun _ =>
(f_X9_feed s18.2.1 s18.2.2.1 s18.2.2.2.2 w1 x_86 x_88 x_90 x_92 x_94).bind fun r_96 =>
(p_sc sL sx (s18.1 + (1 : Int32))).bind fun x_99 =>
(p_sc sL sx (s18.1 + (2 : Int32))).bind fun x_101 =>
(p_sc sL sx (s18.1 + (3 : Int32))).bind fun x_103 =>
(p_sc sL sx (s18.1 + (4 : Int32))).bind fun x_105 =>
(p_sc sL sx (s18.1 + (5 : Int32))).bind fun x_107 =>
(p_ob s18.2.1 10 w2).bind fun _ =>
(f_X10_feed s18.2.1 r_96.2 s18.2.2.2.2 w2 x_99 x_101 x_103 x_105 x_107).bind fun r_109 =>
if r_96.1 = r_109.1 then (
p_let (s18.1 + (6 : Int32)) fun x_113 =>
some (.inl (x_113, s18.2.1, r_109.2, s18.2.2.2.1, s18.2.2.2.2)))
else (
none))
else if (x_12 &&& (63 : Int32)) = (5 : Int32) then (
(p_sc sL sx (s18.1 + (1 : Int32))).bind fun x_115 =>
(p_ob s18.2.1 9 w1).bind fun _ =>
(f_X9_end s18.2.1 s18.2.2.1 w1 x_115).bind fun r_117 =>
(p_sc sL sx (s18.1 + (1 : Int32))).bind fun x_120 =>
(p_ob s18.2.1 10 w2).bind fun _ =>
(f_X10_end s18.2.1 r_117.2 w2 x_120).bind fun r_122 =>
if r_117.1 = r_122.1 then (
p_let (s18.1 + (6 : Int32)) fun x_126 =>
some (.inl (x_126, s18.2.1, r_122.2, s18.2.2.2.1, s18.2.2.2.2)))
else (
none))
else if (x_12 &&& (63 : Int32)) = (6 : Int32) then (
(p_ob s18.2.1 9 w1).bind fun _ =>
(f_X9_row s18.2.1 s18.2.2.1 s18.2.2.2.2 w1).bind fun r_128 =>
(p_ob s18.2.1 10 w2).bind fun _ =>
(f_X10_row s18.2.1 r_128.2 s18.2.2.2.2 w2).bind fun r_131 =>
if r_128.1 = r_131.1 then (
p_let (s18.1 + (6 : Int32)) fun x_135 =>
some (.inl (x_135, s18.2.1, r_131.2, s18.2.2.2.1, s18.2.2.2.2)))
else (
none))
else if (x_12 &&& (63 : Int32)) = (7 : Int32) then (
(p_ob s18.2.1 9 w1).bind fun _ =>
(f_X9_burrs s18.2.1 s18.2.2.1 w1).bind fun r_137 =>
(p_ob s18.2.1 10 w2).bind fun _ =>
(f_X10_burrs s18.2.1 s18.2.2.1 w2).bind fun r_140 =>
if r_137 = r_140 then (
p_let (s18.1 + (6 : Int32)) fun x_144 =>
some (.inl (x_144, s18.2.1, s18.2.2.1, s18.2.2.2.1, s18.2.2.2.2)))
else (
none))
else if (x_12 &&& (63 : Int32)) = (8 : Int32) then (
(p_ob s18.2.1 9 w1).bind fun _ =>
(f_X9_law s18.2.1 s18.2.2.1 s18.2.2.2.2 w1).bind fun r_146 =>
(p_ob r_146.2.1 10 w2).bind fun _ =>
(f_X10_law r_146.2.1 r_146.2.2.1 r_146.2.2.2 w2).bind fun r_149 =>
if r_146.1 = r_149.1 then (
p_let (s18.1 + (6 : Int32)) fun x_153 =>
some (.inl (x_153, r_146.2.1, r_149.2, s18.2.2.2.1, r_146.2.2.2)))
else (
none))
else if (x_12 &&& (63 : Int32)) = (9 : Int32) then (
(p_ob s18.2.1 9 w1).bind fun _ =>
(f_X9_orders s18.2.1 s18.2.2.1 s18.2.2.2.1 s18.2.2.2.2 w1).bind fun r_155 =>
(p_ob r_155.2.1 10 w2).bind fun _ =>
(f_X10_orders r_155.2.1 r_155.2.2.1 r_155.2.2.2.1 r_155.2.2.2.2 w2).bind fun r_158 =>
if r_155.1 = r_158.1 then (
p_let (s18.1 + (6 : Int32)) fun x_162 =>
some (.inl (x_162, r_155.2.1, r_158.2.1, r_158.2.2, r_155.2.2.2.2)))
else (
none))
else if (x_12 &&& (63 : Int32)) = (10 : Int32) then (
(p_ob s18.2.1 9 w1).bind fun _ =>
(f_X9_fault s18.2.1 s18.2.2.1 w1).bind fun r_164 =>
(p_ob s18.2.1 10 w2).bind fun _ =>
(f_X10_fault s18.2.1 s18.2.2.1 w2).bind fun r_167 =>
if r_164 = r_167 then (
p_let (s18.1 + (6 : Int32)) fun x_171 =>
some (.inl (x_171, s18.2.1, s18.2.2.1, s18.2.2.2.1, s18.2.2.2.2)))
else (
none))
else if (x_12 &&& (63 : Int32)) = (11 : Int32) then (
(p_ob s18.2.1 9 w1).bind fun _ =>
(f_X9_stopped s18.2.1 s18.2.2.1 w1).bind fun r_173 =>
(p_ob s18.2.1 10 w2).bind fun _ =>
(f_X10_stopped s18.2.1 s18.2.2.1 w2).bind fun r_176 =>
if r_173 = r_176 then (
p_let (s18.1 + (6 : Int32)) fun x_180 =>
some (.inl (x_180, s18.2.1, s18.2.2.1, s18.2.2.2.1, s18.2.2.2.2)))
else (
none))
else if (x_12 &&& (63 : Int32)) = (12 : Int32) then (
(p_sc sL sx (s18.1 + (1 : Int32))).bind fun x_182 =>
(p_ob s18.2.1 9 w1).bind fun _ =>
(f_X9_force s18.2.1 s18.2.2.1 s18.2.2.2.2 w1 x_182).bind fun r_184 =>
(p_sc sL sx (s18.1 + (1 : Int32))).bind fun x_187 =>
(p_ob s18.2.1 10 w2).bind fun _ =>
(f_X10_force s18.2.1 r_184.2 s18.2.2.2.2 w2 x_187).bind fun r_189 =>
if r_184.1 = r_189.1 then (
p_let (s18.1 + (6 : Int32)) fun x_193 =>
some (.inl (x_193, s18.2.1, r_189.2, s18.2.2.2.1, s18.2.2.2.2)))
else (
none))
else if (x_12 &&& (63 : Int32)) = (13 : Int32) then (
(p_sc sL sx (s18.1 + (1 : Int32))).bind fun x_195 =>
(p_ob s18.2.1 9 w1).bind fun _ =>
(f_X9_touch s18.2.1 s18.2.2.1 s18.2.2.2.1 s18.2.2.2.2 w1 x_195).bind fun r_197 =>
(p_sc sL sx (s18.1 + (1 : Int32))).bind fun x_200 =>
(p_ob r_197.2.1 10 w2).bind fun _ =>
(f_X10_touch r_197.2.1 r_197.2.2.1 r_197.2.2.2.2 w2 x_200).bind fun r_202 =>
if r_197.1 = r_202.1 then (
p_let (s18.1 + (6 : Int32)) fun x_206 =>
some (.inl (x_206, r_197.2.1, r_202.2, r_197.2.2.2.1, r_197.2.2.2.2)))
else (
none))
else if (x_12 &&& (63 : Int32)) = (14 : Int32) then (
(p_sc sL sx (s18.1 + (1 : Int32))).bind fun x_208 =>
(p_ob s18.2.1 9 w1).bind fun _ =>
(f_X9_coax s18.2.1 s18.2.2.1 s18.2.2.2.1 s18.2.2.2.2 w1 x_208).bind fun r_210 =>
(p_sc sL sx (s18.1 + (1 : Int32))).bind fun x_213 =>
(p_ob r_210.2.1 10 w2).bind fun _ =>
(f_X10_coax r_210.2.1 r_210.2.2.1 r_210.2.2.2.2 w2 x_213).bind fun r_215 =>
if r_210.1 = r_215.1 then (
p_let (s18.1 + (6 : Int32)) fun x_219 =>
some (.inl (x_219, r_210.2.1, r_215.2, r_210.2.2.2.1, r_210.2.2.2.2)))
else (
none))
else if (x_12 &&& (63 : Int32)) = (15 : Int32) then (
(p_sc sL sx (s18.1 + (1 : Int32))).bind fun x_221 =>
(p_sc sL sx (s18.1 + (2 : Int32))).bind fun x_223 =>
(p_ob s18.2.1 9 w1).bind fun _ =>
(f_X9_tempt s18.2.1 s18.2.2.1 s18.2.2.2.1 s18.2.2.2.2 w1 x_221 x_223).bind fun r_225 =>
(p_sc sL sx (s18.1 + (1 : Int32))).bind fun x_228 =>
(p_sc sL sx (s18.1 + (2 : Int32))).bind fun x_230 =>
(p_ob r_225.2.1 10 w2).bind fun _ =>
(f_X10_tempt r_225.2.1 r_225.2.2.1 r_225.2.2.2.2 w2 x_228 x_230).bind fun r_232 =>
if r_225.1 = r_232.1 then (
p_let (s18.1 + (6 : Int32)) fun x_236 =>
some (.inl (x_236, r_225.2.1, r_232.2, r_225.2.2.2.1, r_225.2.2.2.2)))
else (
none))
else if (x_12 &&& (63 : Int32)) = (16 : Int32) then (
(p_ob s18.2.1 9 w1).bind fun _ =>
(f_X9_pass s18.2.1 s18.2.2.1 s18.2.2.2.1 s18.2.2.2.2 w1).bind fun r_238 =>
(p_ob r_238.2.1 10 w2).bind fun _ =>
(f_X10_pass r_238.2.1 r_238.2.2.1 r_238.2.2.2.2 w2).bind fun r_241 =>
if r_238.1 = r_241.1 then (
p_let (s18.1 + (6 : Int32)) fun x_245 =>
some (.inl (x_245, r_238.2.1, r_241.2, r_238.2.2.2.1, r_238.2.2.2.2)))
else (
none))
else if (x_12 &&& (63 : Int32)) = (17 : Int32) then (
(p_ob s18.2.1 9 w1).bind fun _ =>
(f_X9_undo s18.2.1 s18.2.2.1 s18.2.2.2.2 w1).bind fun r_247 =>
(p_ob s18.2.1 10 w2).bind fun _ =>
(f_X10_undo s18.2.1 r_247.2 s18.2.2.2.2 w2).bind fun r_250 =>
if r_247.1 = r_250.1 then (
p_let (s18.1 + (6 : Int32)) fun x_254 =>
some (.inl (x_254, s18.2.1, r_250.2, s18.2.2.2.1, s18.2.2.2.2)))
else (
none))
else if (x_12 &&& (63 : Int32)) = (18 : Int32) then (
(p_sc sL sx (s18.1 + (1 : Int32))).bind fun x_256 =>
(p_ob s18.2.1 9 w1).bind fun _ =>
(f_X9_later s18.2.1 s18.2.2.1 s18.2.2.2.1 s18.2.2.2.2 w1 x_256).bind fun r_258 =>
(p_sc sL sx (s18.1 + (1 : Int32))).bind fun x_261 =>
(p_ob s18.2.1 10 w2).bind fun _ =>
(f_X10_later s18.2.1 r_258.2.1 s18.2.2.2.2 w2 x_261).bind fun r_263 =>
if r_258.1 = r_263.1 then (
p_let (s18.1 + (6 : Int32)) fun x_267 =>
some (.inl (x_267, s18.2.1, r_263.2, r_258.2.2, s18.2.2.2.2)))
else (
none))
else if (x_12 &&& (63 : Int32)) = (19 : Int32) then (
(p_sc sL sx (s18.1 + (1 : Int32))).bind fun x_269 =>
(p_ob s18.2.1 9 w1).bind fun _ =>
(f_X9_opens s18.2.1 s18.2.2.1 s18.2.2.2.1 s18.2.2.2.2 w1 x_269).bind fun r_271 =>
(p_sc sL sx (s18.1 + (1 : Int32))).bind fun x_274 =>
(p_ob s18.2.1 10 w2).bind fun _ =>
(f_X10_opens s18.2.1 r_271.2.1 s18.2.2.2.2 w2 x_274).bind fun r_276 =>
if r_271.1 = r_276.1 then (
p_let (s18.1 + (6 : Int32)) fun x_280 =>
some (.inl (x_280, s18.2.1, r_276.2, r_271.2.2, s18.2.2.2.2)))
else (
none))
else if (x_12 &&& (63 : Int32)) = (20 : Int32) then (
(p_ob s18.2.1 9 w1).bind fun _ =>
(f_X9_together s18.2.1 s18.2.2.1 s18.2.2.2.1 s18.2.2.2.2 w1).bind fun r_282 =>
(p_ob s18.2.1 10 w2).bind fun _ =>
(f_X10_together s18.2.1 r_282.2.1 s18.2.2.2.2 w2).bind fun r_285 =>
if r_282.1 = r_285.1 then (
p_let (s18.1 + (6 : Int32)) fun x_289 =>
some (.inl (x_289, s18.2.1, r_285.2, r_282.2.2, s18.2.2.2.2)))
else (
none))
else if (x_12 &&& (63 : Int32)) = (21 : Int32) then (
(p_ob s18.2.1 9 w1).bind fun _ =>
(f_X9_again s18.2.1 s18.2.2.1 s18.2.2.2.1 s18.2.2.2.2 w1).bind fun r_291 =>
(p_ob s18.2.1 10 w2).bind fun _ =>
(f_X10_again s18.2.1 r_291.2.1 s18.2.2.2.2 w2).bind fun r_294 =>
if r_291.1 = r_294.1 then (
p_let (s18.1 + (6 : Int32)) fun x_298 =>
some (.inl (x_298, s18.2.1, r_294.2, r_291.2.2, s18.2.2.2.2)))
else (
none))
else if (x_12 &&& (63 : Int32)) = (22 : Int32) then (
(p_sc sL sx (s18.1 + (1 : Int32))).bind fun x_300 =>
(p_ob s18.2.1 9 w1).bind fun _ =>
(f_X9_seeds s18.2.1 s18.2.2.1 s18.2.2.2.1 s18.2.2.2.2 w1 x_300).bind fun r_302 =>
(p_sc sL sx (s18.1 + (1 : Int32))).bind fun x_305 =>
(p_ob s18.2.1 10 w2).bind fun _ =>
(f_X10_seeds s18.2.1 r_302.2.1 s18.2.2.2.2 w2 x_305).bind fun r_307 =>
if r_302.1 = r_307.1 then (
p_let (s18.1 + (6 : Int32)) fun x_311 =>
some (.inl (x_311, s18.2.1, r_307.2, r_302.2.2, s18.2.2.2.2)))
else (
none))
else if (x_12 &&& (63 : Int32)) = (23 : Int32) then (
(p_sc sL sx (s18.1 + (1 : Int32))).bind fun x_313 =>
(p_sc sL sx (s18.1 + (2 : Int32))).bind fun x_315 =>
(p_ob s18.2.1 9 w1).bind fun _ =>
(f_X9_seedsFor s18.2.1 s18.2.2.1 s18.2.2.2.1 s18.2.2.2.2 w1 x_313 x_315).bind fun r_317 =>
(p_sc sL sx (s18.1 + (1 : Int32))).bind fun x_320 =>
(p_sc sL sx (s18.1 + (2 : Int32))).bind fun x_322 =>
(p_ob s18.2.1 10 w2).bind fun _ =>
(f_X10_seedsFor s18.2.1 r_317.2.1 s18.2.2.2.2 w2 x_320 x_322).bind fun r_324 =>
if r_317.1 = r_324.1 then (
p_let (s18.1 + (6 : Int32)) fun x_328 =>
some (.inl (x_328, s18.2.1, r_324.2, r_317.2.2, s18.2.2.2.2)))
else (
none))
else if (x_12 &&& (63 : Int32)) = (24 : Int32) then (
(p_sc sL sx (s18.1 + (1 : Int32))).bind fun x_330 =>
(p_ob s18.2.1 9 w1).bind fun _ =>
(f_X9_spread s18.2.1 s18.2.2.1 s18.2.2.2.1 s18.2.2.2.2 w1 x_330).bind fun r_332 =>
(p_sc sL sx (s18.1 + (1 : Int32))).bind fun x_335 =>
(p_ob s18.2.1 10 w2).bind fun _ =>
(f_X10_spread s18.2.1 r_332.2.1 s18.2.2.2.2 w2 x_335).bind fun r_337 =>
if r_332.1 = r_337.1 then (
p_let (s18.1 + (6 : Int32)) fun x_341 =>
some (.inl (x_341, s18.2.1, r_337.2, r_332.2.2, s18.2.2.2.2)))
else (
none))
else if (x_12 &&& (63 : Int32)) = (25 : Int32) then (
(p_sc sL sx (s18.1 + (1 : Int32))).bind fun x_343 =>
(p_sc sL sx (s18.1 + (2 : Int32))).bind fun x_345 =>
(p_ob s18.2.1 9 w1).bind fun _ =>
(f_X9_held s18.2.1 s18.2.2.1 s18.2.2.2.1 s18.2.2.2.2 w1 x_343 x_345).bind fun r_347 =>
(p_sc sL sx (s18.1 + (1 : Int32))).bind fun x_350 =>
(p_sc sL sx (s18.1 + (2 : Int32))).bind fun x_352 =>
(p_ob s18.2.1 10 w2).bind fun _ =>
(f_X10_held s18.2.1 r_347.2.1 s18.2.2.2.2 w2 x_350 x_352).bind fun r_354 =>
if r_347.1 = r_354.1 then (
p_let (s18.1 + (6 : Int32)) fun x_358 =>
some (.inl (x_358, s18.2.1, r_354.2, r_347.2.2, s18.2.2.2.2)))
else (
none))
else if (x_12 &&& (63 : Int32)) = (26 : Int32) then (
(p_sc sL sx (s18.1 + (1 : Int32))).bind fun x_360 =>
(p_sc sL sx (s18.1 + (2 : Int32))).bind fun x_362 =>
(p_sc sL sx (s18.1 + (3 : Int32))).bind fun x_364 =>
(p_ob s18.2.1 9 w1).bind fun _ =>
(f_X9_chain s18.2.1 s18.2.2.1 s18.2.2.2.2 w1 x_360 x_362 x_364).bind fun r_366 =>
(p_sc sL sx (s18.1 + (1 : Int32))).bind fun x_369 =>
(p_sc sL sx (s18.1 + (2 : Int32))).bind fun x_371 =>
(p_sc sL sx (s18.1 + (3 : Int32))).bind fun x_373 =>
(p_ob s18.2.1 10 w2).bind fun _ =>
(f_X10_chain s18.2.1 r_366.2 s18.2.2.2.2 w2 x_369 x_371 x_373).bind fun r_375 =>
if r_366.1 = r_375.1 then (
p_let (s18.1 + (6 : Int32)) fun x_379 =>
some (.inl (x_379, s18.2.1, r_375.2, s18.2.2.2.1, s18.2.2.2.2)))
else (
none))
else if (x_12 &&& (63 : Int32)) = (27 : Int32) then (
(p_ob s18.2.1 9 w1).bind fun _ =>
(f_X9_knots s18.2.1 s18.2.2.1 s18.2.2.2.2 w1).bind fun r_381 =>
(p_ob s18.2.1 10 w2).bind fun _ =>
(f_X10_knots s18.2.1 r_381.2 s18.2.2.2.2 w2).bind fun r_384 =>
if r_381.1 = r_384.1 then (
p_let (s18.1 + (6 : Int32)) fun x_388 =>
some (.inl (x_388, s18.2.1, r_384.2, s18.2.2.2.1, s18.2.2.2.2)))
else (
none))
else if (x_12 &&& (63 : Int32)) = (28 : Int32) then (
(p_sc sL sx (s18.1 + (1 : Int32))).bind fun x_390 =>
(p_ob s18.2.1 9 w1).bind fun _ =>
(f_X9_heads s18.2.1 s18.2.2.1 s18.2.2.2.2 w1 x_390).bind fun r_392 =>
(p_sc sL sx (s18.1 + (1 : Int32))).bind fun x_395 =>
(p_ob s18.2.1 10 w2).bind fun _ =>
(f_X10_heads s18.2.1 r_392.2 s18.2.2.2.2 w2 x_395).bind fun r_397 =>
if r_392.1 = r_397.1 then (
p_let (s18.1 + (6 : Int32)) fun x_401 =>
some (.inl (x_401, s18.2.1, r_397.2, s18.2.2.2.1, s18.2.2.2.2)))
else (
none))
else if (x_12 &&& (63 : Int32)) = (29 : Int32) then (
(p_sc sL sx (s18.1 + (1 : Int32))).bind fun x_403 =>
(p_sc sL sx (s18.1 + (2 : Int32))).bind fun x_405 =>
(p_ob s18.2.1 9 w1).bind fun _ =>
(f_X9_seen s18.2.1 s18.2.2.1 s18.2.2.2.2 w1 x_403 x_405).bind fun r_407 =>
(p_sc sL sx (s18.1 + (1 : Int32))).bind fun x_410 =>
(p_sc sL sx (s18.1 + (2 : Int32))).bind fun x_412 =>
(p_ob s18.2.1 10 w2).bind fun _ =>
(f_X10_seen s18.2.1 r_407.2 s18.2.2.2.2 w2 x_410 x_412).bind fun r_414 =>
if r_407.1 = r_414.1 then (
p_let (s18.1 + (6 : Int32)) fun x_418 =>
some (.inl (x_418, s18.2.1, r_414.2, s18.2.2.2.1, s18.2.2.2.2)))
else (
none))
else if (x_12 &&& (63 : Int32)) = (30 : Int32) then (
(p_ob s18.2.1 9 w1).bind fun _ =>
(f_X9_forget s18.2.1 s18.2.2.1 s18.2.2.2.2 w1).bind fun r_420 =>
(p_ob s18.2.1 10 w2).bind fun _ =>
(f_X10_forget s18.2.1 r_420.2 s18.2.2.2.2 w2).bind fun r_423 =>
if r_420.1 = r_423.1 then (
p_let (s18.1 + (6 : Int32)) fun x_427 =>
some (.inl (x_427, s18.2.1, r_423.2, s18.2.2.2.1, s18.2.2.2.2)))
else (
none))
else if (x_12 &&& (63 : Int32)) = (31 : Int32) then (
(p_ob s18.2.1 9 w1).bind fun _ =>
(f_X9_canBe s18.2.1 s18.2.2.1 s18.2.2.2.1 s18.2.2.2.2 w1).bind fun r_429 =>
(p_ob s18.2.1 10 w2).bind fun _ =>
(f_X10_canBe s18.2.1 r_429.2.1 s18.2.2.2.2 w2).bind fun r_432 =>
if r_429.1 = r_432.1 then (
p_let (s18.1 + (6 : Int32)) fun x_436 =>
some (.inl (x_436, s18.2.1, r_432.2, r_429.2.2, s18.2.2.2.2)))
else (
none))
else if (x_12 &&& (63 : Int32)) = (32 : Int32) then (
(p_sc sL sx (s18.1 + (1 : Int32))).bind fun x_438 =>
(p_ob s18.2.1 9 w1).bind fun _ =>
(f_X9_look s18.2.1 s18.2.2.1 s18.2.2.2.1 s18.2.2.2.2 w1 x_438).bind fun r_440 =>
(p_sc sL sx (s18.1 + (1 : Int32))).bind fun x_443 =>
(p_ob s18.2.1 10 w2).bind fun _ =>
(f_X10_look s18.2.1 r_440.2.1 s18.2.2.2.2 w2 x_443).bind fun r_445 =>
if r_440.1 = r_445.1 then (
p_let (s18.1 + (6 : Int32)) fun x_449 =>
some (.inl (x_449, s18.2.1, r_445.2, r_440.2.2, s18.2.2.2.2)))
else (
none))
else if (x_12 &&& (63 : Int32)) = (33 : Int32) then (
(p_sc sL sx (s18.1 + (1 : Int32))).bind fun x_451 =>
(p_sc sL sx (s18.1 + (2 : Int32))).bind fun x_453 =>
(p_ob s18.2.1 9 w1).bind fun _ =>
(f_X9_few s18.2.1 s18.2.2.1 s18.2.2.2.1 s18.2.2.2.2 w1 x_451 x_453).bind fun r_455 =>
(p_sc sL sx (s18.1 + (1 : Int32))).bind fun x_458 =>
(p_sc sL sx (s18.1 + (2 : Int32))).bind fun x_460 =>
(p_ob s18.2.1 10 w2).bind fun _ =>
(f_X10_few s18.2.1 s18.2.2.1 r_455.2 s18.2.2.2.2 w2 x_458 x_460).bind fun r_462 =>
if (lg_cmp r_455.1 r_462.1) = (0 : Int32) then (
p_let (s18.1 + (6 : Int32)) fun x_466 =>
some (.inl (x_466, s18.2.1, s18.2.2.1, r_462.2, s18.2.2.2.2)))
else (
none))
else if (x_12 &&& (63 : Int32)) = (34 : Int32) then (
(p_sc sL sx (s18.1 + (1 : Int32))).bind fun x_468 =>
(p_ob s18.2.1 9 w1).bind fun _ =>
(f_X9_compare s18.2.1 s18.2.2.1 s18.2.2.2.1 s18.2.2.2.2 w1 x_468).bind fun r_470 =>
(p_sc sL sx (s18.1 + (1 : Int32))).bind fun x_473 =>
(p_ob s18.2.1 10 w2).bind fun _ =>
(f_X10_compare s18.2.1 r_470.2.1 s18.2.2.2.2 w2 x_473).bind fun r_475 =>
if r_470.1 = r_475.1 then (
p_let (s18.1 + (6 : Int32)) fun x_479 =>
some (.inl (x_479, s18.2.1, r_475.2, r_470.2.2, s18.2.2.2.2)))
else (
none))
else if (x_12 &&& (63 : Int32)) = (35 : Int32) then (
(p_sc sL sx (s18.1 + (1 : Int32))).bind fun x_481 =>
(p_sc sL sx (s18.1 + (2 : Int32))).bind fun x_483 =>
(p_ob s18.2.1 9 w1).bind fun _ =>
(f_X9_councils s18.2.1 s18.2.2.1 s18.2.2.2.1 s18.2.2.2.2 w1 x_481 x_483).bind fun r_485 =>
(p_sc sL sx (s18.1 + (1 : Int32))).bind fun x_488 =>
(p_sc sL sx (s18.1 + (2 : Int32))).bind fun x_490 =>
(p_ob s18.2.1 10 w2).bind fun _ =>
(f_X10_councils s18.2.1 r_485.2.1 s18.2.2.2.2 w2 x_488 x_490).bind fun r_492 =>
if r_485.1 = r_492.1 then (
p_let (s18.1 + (6 : Int32)) fun x_496 =>
some (.inl (x_496, s18.2.1, r_492.2, r_485.2.2, s18.2.2.2.2)))
else (
none))
else if (x_12 &&& (63 : Int32)) = (36 : Int32) then (
(p_sc sL sx (s18.1 + (1 : Int32))).bind fun x_498 =>
(p_sc sL sx (s18.1 + (2 : Int32))).bind fun x_500 =>
(p_ob s18.2.1 9 w1).bind fun _ =>
(f_X9_drawn s18.2.1 s18.2.2.1 s18.2.2.2.2 w1 x_498 x_500).bind fun r_502 =>
(p_sc sL sx (s18.1 + (1 : Int32))).bind fun x_505 =>
(p_sc sL sx (s18.1 + (2 : Int32))).bind fun x_507 =>
(p_ob s18.2.1 10 w2).bind fun _ =>
(f_X10_drawn s18.2.1 s18.2.2.1 s18.2.2.2.2 w2 x_505 x_507).bind fun r_509 =>
if r_502 = r_509 then (
p_let (s18.1 + (6 : Int32)) fun x_513 =>
some (.inl (x_513, s18.2.1, s18.2.2.1, s18.2.2.2.1, s18.2.2.2.2)))
else (
none))
else if (x_12 &&& (63 : Int32)) = (37 : Int32) then (
(p_sc sL sx (s18.1 + (1 : Int32))).bind fun x_515 =>
(p_ob s18.2.1 9 w1).bind fun _ =>
(f_X9_image s18.2.1 s18.2.2.1 s18.2.2.2.2 w1 x_515).bind fun r_517 =>
(p_sc sL sx (s18.1 + (1 : Int32))).bind fun x_520 =>
(p_ob r_517.2.1 10 w2).bind fun _ =>
(f_X10_image r_517.2.1 r_517.2.2.1 r_517.2.2.2 w2 x_520).bind fun r_522 =>
if r_517.1 = r_522.1 then (
p_let (s18.1 + (6 : Int32)) fun x_526 =>
some (.inl (x_526, r_517.2.1, r_522.2, s18.2.2.2.1, r_517.2.2.2)))
else (
none))
else if (x_12 &&& (63 : Int32)) = (38 : Int32) then (
(p_sc sL sx (s18.1 + (1 : Int32))).bind fun x_528 =>
(p_ob s18.2.1 9 w1).bind fun _ =>
(f_X9_back s18.2.1 s18.2.2.1 s18.2.2.2.2 w1 x_528).bind fun r_530 =>
(p_sc sL sx (s18.1 + (1 : Int32))).bind fun x_533 =>
(p_ob s18.2.1 10 w2).bind fun _ =>
(f_X10_back s18.2.1 r_530.2.1 r_530.2.2 w2 x_533).bind fun r_535 =>
if r_530.1 = r_535.1 then (
p_let (s18.1 + (6 : Int32)) fun x_539 =>
some (.inl (x_539, s18.2.1, r_535.2, s18.2.2.2.1, r_530.2.2)))
else (
none))
else if (x_12 &&& (63 : Int32)) = (39 : Int32) then (
(p_sc sL sx (s18.1 + (1 : Int32))).bind fun x_541 =>
(p_ob s18.2.1 9 w1).bind fun _ =>
(f_X9_count s18.2.1 s18.2.2.1 s18.2.2.2.2 w1 x_541).bind fun r_543 =>
(p_sc sL sx (s18.1 + (1 : Int32))).bind fun x_546 =>
(p_ob s18.2.1 10 w2).bind fun _ =>
(f_X10_count s18.2.1 s18.2.2.1 s18.2.2.2.2 w2 x_546).bind fun r_548 =>
if r_543 = r_548 then (
p_let (s18.1 + (6 : Int32)) fun x_552 =>
some (.inl (x_552, s18.2.1, s18.2.2.1, s18.2.2.2.1, s18.2.2.2.2)))
else (
none))
else if (x_12 &&& (63 : Int32)) = (40 : Int32) then (
(p_ob s18.2.1 9 w1).bind fun _ =>
(f_X9_status s18.2.1 s18.2.2.1 w1).bind fun r_554 =>
(p_ob s18.2.1 10 w2).bind fun _ =>
(f_X10_status s18.2.1 s18.2.2.1 w2).bind fun r_557 =>
if r_554 = r_557 then (
p_let (s18.1 + (6 : Int32)) fun x_561 =>
some (.inl (x_561, s18.2.1, s18.2.2.1, s18.2.2.2.1, s18.2.2.2.2)))
else (
none))
else (
p_let (s18.1 + (6 : Int32)) fun x_563 =>
some (.inl (x_563, s18.2.1, s18.2.2.1, s18.2.2.2.1, s18.2.2.2.2))))
set_option maxRecDepth 100000 in
def f_L_law (sL : Nat) (sx : Nat → Int32) (S : v_S) (I : v_I) (J : v_J) (F : v_F) : Option Int32 :=
p_let (S ++ [(9, v_n 9)]) fun S_1 =>
(f_X9_init S_1 I F S.length).bind fun r_4 =>
p_let (r_4.1 ++ [(10, v_n 10)]) fun S_6 =>
(f_X10_init S_6 r_4.2.1 r_4.2.2 r_4.1.length).bind fun r_9 =>
(v_loop (f_L_law_B18 sL sx S.length r_4.1.length) 513 ((0 : Int32), r_9.1, r_9.2.1, J, r_9.2.2)).bind fun q_606 =>
some ((1 : Int32))
set_option maxHeartbeats 40000000 in
set_option maxRecDepth 100000 in
theorem t_L_law {nm : String} {r : Int32} {Q : v_Q} (hQ : ∀ S I J F, Q (some (.int 1)) S I J F) (h : f_L_law sL sx S I J F = some r) : V l B D ac (v_EE B wa wb wt sb sL sx) (⟨RL, nm, "([I)Z"⟩ : MethodName) code 4 ret 2048 600000 7302250 0 0 S I J F 0 [(0, .ref sb)] [] Q := by
  have b18 : ∀ (n18 : Nat) (w1 : Nat) (w2 : Nat) (s18 : Int32 × v_S × v_I × v_J × v_F) (rx18 : (Int32 × v_S × v_I × v_J × v_F) ⊕ (Int32 × v_S × v_I × v_J × v_F)), f_L_law_B18 sL sx w1 w2 s18 = some rx18 → n18 + 1 ≤ 513 → v_K ((fun (nP : Nat) (sP : Int32 × v_S × v_I × v_J × v_F) => nP ≤ 513 → V l B D ac (v_EE B wa wb wt sb sL sx) (⟨RL, nm, "([I)Z"⟩ : MethodName) code 4 ret 2048 600000 7302250 (((((0 + 1) + 48) + 1) + 22) + (513 - nP) * 847) (((((0 + 18) + 2141) + 48) + 19507) + (513 - nP) * 6112) sP.2.1 sP.2.2.1 sP.2.2.2.1 sP.2.2.2.2 18 [(0, .ref sb), (1, .ref (B + w1)), (2, .ref (B + w2)), (3, .int sP.1)] [] Q) n18) (fun (rE : Int32 × v_S × v_I × v_J × v_F) => V l B D ac (v_EE B wa wb wt sb sL sx) (⟨RL, nm, "([I)Z"⟩ : MethodName) code 4 ret 2048 600000 7302250 (((((0 + 1) + 48) + 1) + 22) + 513 * 847) (((((0 + 18) + 2141) + 48) + 19507) + 513 * 6112) rE.2.1 rE.2.2.1 rE.2.2.2.1 rE.2.2.2.2 1202 [] [] Q) rx18 → V l B D ac (v_EE B wa wb wt sb sL sx) (⟨RL, nm, "([I)Z"⟩ : MethodName) code 4 ret 2048 600000 7302250 (((((0 + 1) + 48) + 1) + 22) + (513 - (n18 + 1)) * 847) (((((0 + 18) + 2141) + 48) + 19507) + (513 - (n18 + 1)) * 6112) s18.2.1 s18.2.2.1 s18.2.2.2.1 s18.2.2.2.2 18 [(0, .ref sb), (1, .ref (B + w1)), (2, .ref (B + w2)), (3, .int s18.1)] [] Q := by
    intro n18 w1 w2 s18 rx18 h hN hk
    unfold f_L_law_B18 at h
    refine v_iload_n dL_law_18 rfl ?_
    refine v_aload_n dL_law_19 rfl ?_
    refine v_slenS dL_law_20 ?_
    refine v_bipush (6 : Int32) dL_law_21 (by decide) ?_
    refine v_isub dL_law_23 ?_
    refine v_icmp_gt 1202 dL_law_24 (by decide) (fun c_11 => ?_) (fun c_11 => ?_)
    · rw [if_pos c_11] at h
      cases h
      refine v_sub [] trivial ?_
      exact v_widen (by omega) (by omega) hk
    · rw [if_neg c_11] at h
      refine v_aload_n dL_law_27 rfl ?_
      refine v_iload_n dL_law_28 rfl ?_
      replace h := p_bind_elim h
      obtain ⟨x_12, q_13, h⟩ := h
      refine v_sldS dL_law_29 q_13 ?_
      refine v_bipush (63 : Int32) dL_law_30 (by decide) ?_
      refine v_iand dL_law_32 ?_
      by_cases c_565 : (x_12 &&& (63 : Int32)) = (0 : Int32)
      · rw [if_pos c_565] at h
        refine v_swIn 212 (0 : Int32) c_565 dL_law_33 (by decide) (by decide) rfl (by decide) ?_
        refine v_aload_n dL_law_212 rfl ?_
        refine v_aload_n dL_law_213 rfl ?_
        refine v_iload_n dL_law_214 rfl ?_
        refine v_iconstE (1 : Int32) dL_law_215 (by decide) ?_
        refine v_iadd dL_law_216 ?_
        replace h := p_bind_elim h
        obtain ⟨x_14, q_15, h⟩ := h
        refine v_sldS dL_law_217 q_15 ?_
        refine v_aload_n dL_law_218 rfl ?_
        refine v_iload_n dL_law_219 rfl ?_
        refine v_iconstE (2 : Int32) dL_law_220 (by decide) ?_
        refine v_iadd dL_law_221 ?_
        replace h := p_bind_elim h
        obtain ⟨x_16, q_17, h⟩ := h
        refine v_sldS dL_law_222 q_17 ?_
        replace h := p_bind_elim h
        obtain ⟨_, q_20, h⟩ := h
        have q_20 := p_ob_spec q_20
        replace h := p_bind_elim h
        obtain ⟨r_18, q_19, h⟩ := h
        refine v_cVr (t_X9_hedgehog q_19) cal_X9_hedgehog ml_L_13 sel_X9_hedgehog q_20 kk_9 dL_law_223 (by omega) (by (try simp only [v_n]); omega) (by (try simp only [v_n]); omega) (Nat.le_of_ble_eq_true rfl) rfl ?_
        refine v_aload_n dL_law_226 rfl ?_
        refine v_aload_n dL_law_227 rfl ?_
        refine v_iload_n dL_law_228 rfl ?_
        refine v_iconstE (1 : Int32) dL_law_229 (by decide) ?_
        refine v_iadd dL_law_230 ?_
        replace h := p_bind_elim h
        obtain ⟨x_21, q_22, h⟩ := h
        refine v_sldS dL_law_231 q_22 ?_
        refine v_aload_n dL_law_232 rfl ?_
        refine v_iload_n dL_law_233 rfl ?_
        refine v_iconstE (2 : Int32) dL_law_234 (by decide) ?_
        refine v_iadd dL_law_235 ?_
        replace h := p_bind_elim h
        obtain ⟨x_23, q_24, h⟩ := h
        refine v_sldS dL_law_236 q_24 ?_
        replace h := p_bind_elim h
        obtain ⟨_, q_27, h⟩ := h
        have q_27 := p_ob_spec q_27
        replace h := p_bind_elim h
        obtain ⟨r_25, q_26, h⟩ := h
        refine v_cVr (t_X10_hedgehog q_26) cal_X10_hedgehog ml_L_17 sel_X10_hedgehog q_27 kk_10 dL_law_237 (by omega) (by (try simp only [v_n]); omega) (by (try simp only [v_n]); omega) (Nat.le_of_ble_eq_true rfl) rfl ?_
        refine v_icmp_eq 1196 dL_law_240 (by decide) (fun c_28 => ?_) (fun c_28 => ?_)
        · rw [if_pos c_28] at h
          replace h := p_let_elim h
          obtain ⟨x_29, h_30, h⟩ := h
          refine v_iincE (6 : Int32) dL_law_1196 (by decide) rfl (by decide) ?_
          rw [← h_30]
          refine v_sub [(0, .ref sb), (1, .ref (B + w1)), (2, .ref (B + w2)), (3, .int x_29)] ⟨rfl, rfl, rfl, rfl, trivial⟩ ?_
          refine v_goto 18 dL_law_1199 (by decide) ?_
          cases h
          refine v_sub [(0, .ref sb), (1, .ref (B + w1)), (2, .ref (B + w2)), (3, .int x_29)] ⟨rfl, rfl, rfl, rfl, trivial⟩ ?_
          have hk_ : n18 ≤ 513 → _ := hk
          exact v_widen (by omega) (by omega) (hk_ (by omega))
        · rw [if_neg c_28] at h
          cases h
      · rw [if_neg c_565] at h
        by_cases c_566 : (x_12 &&& (63 : Int32)) = (1 : Int32)
        · rw [if_pos c_566] at h
          refine v_swIn 245 (1 : Int32) c_566 dL_law_33 (by decide) (by decide) rfl (by decide) ?_
          refine v_aload_n dL_law_245 rfl ?_
          refine v_aload_n dL_law_246 rfl ?_
          refine v_iload_n dL_law_247 rfl ?_
          refine v_iconstE (1 : Int32) dL_law_248 (by decide) ?_
          refine v_iadd dL_law_249 ?_
          replace h := p_bind_elim h
          obtain ⟨x_31, q_32, h⟩ := h
          refine v_sldS dL_law_250 q_32 ?_
          refine v_aload_n dL_law_251 rfl ?_
          refine v_iload_n dL_law_252 rfl ?_
          refine v_iconstE (2 : Int32) dL_law_253 (by decide) ?_
          refine v_iadd dL_law_254 ?_
          replace h := p_bind_elim h
          obtain ⟨x_33, q_34, h⟩ := h
          refine v_sldS dL_law_255 q_34 ?_
          refine v_aload_n dL_law_256 rfl ?_
          refine v_iload_n dL_law_257 rfl ?_
          refine v_iconstE (3 : Int32) dL_law_258 (by decide) ?_
          refine v_iadd dL_law_259 ?_
          replace h := p_bind_elim h
          obtain ⟨x_35, q_36, h⟩ := h
          refine v_sldS dL_law_260 q_36 ?_
          replace h := p_bind_elim h
          obtain ⟨_, q_39, h⟩ := h
          have q_39 := p_ob_spec q_39
          replace h := p_bind_elim h
          obtain ⟨r_37, q_38, h⟩ := h
          refine v_cVr (t_X9_watch q_38) cal_X9_watch ml_L_18 sel_X9_watch q_39 kk_9 dL_law_261 (by omega) (by (try simp only [v_n]); omega) (by (try simp only [v_n]); omega) (Nat.le_of_ble_eq_true rfl) rfl ?_
          refine v_aload_n dL_law_264 rfl ?_
          refine v_aload_n dL_law_265 rfl ?_
          refine v_iload_n dL_law_266 rfl ?_
          refine v_iconstE (1 : Int32) dL_law_267 (by decide) ?_
          refine v_iadd dL_law_268 ?_
          replace h := p_bind_elim h
          obtain ⟨x_40, q_41, h⟩ := h
          refine v_sldS dL_law_269 q_41 ?_
          refine v_aload_n dL_law_270 rfl ?_
          refine v_iload_n dL_law_271 rfl ?_
          refine v_iconstE (2 : Int32) dL_law_272 (by decide) ?_
          refine v_iadd dL_law_273 ?_
          replace h := p_bind_elim h
          obtain ⟨x_42, q_43, h⟩ := h
          refine v_sldS dL_law_274 q_43 ?_
          refine v_aload_n dL_law_275 rfl ?_
          refine v_iload_n dL_law_276 rfl ?_
          refine v_iconstE (3 : Int32) dL_law_277 (by decide) ?_
          refine v_iadd dL_law_278 ?_
          replace h := p_bind_elim h
          obtain ⟨x_44, q_45, h⟩ := h
          refine v_sldS dL_law_279 q_45 ?_
          replace h := p_bind_elim h
          obtain ⟨_, q_48, h⟩ := h
          have q_48 := p_ob_spec q_48
          replace h := p_bind_elim h
          obtain ⟨r_46, q_47, h⟩ := h
          refine v_cVr (t_X10_watch q_47) cal_X10_watch ml_L_22 sel_X10_watch q_48 kk_10 dL_law_280 (by omega) (by (try simp only [v_n]); omega) (by (try simp only [v_n]); omega) (Nat.le_of_ble_eq_true rfl) rfl ?_
          refine v_icmp_eq 1196 dL_law_283 (by decide) (fun c_49 => ?_) (fun c_49 => ?_)
          · rw [if_pos c_49] at h
            replace h := p_let_elim h
            obtain ⟨x_50, h_51, h⟩ := h
            refine v_iincE (6 : Int32) dL_law_1196 (by decide) rfl (by decide) ?_
            rw [← h_51]
            refine v_sub [(0, .ref sb), (1, .ref (B + w1)), (2, .ref (B + w2)), (3, .int x_50)] ⟨rfl, rfl, rfl, rfl, trivial⟩ ?_
            refine v_goto 18 dL_law_1199 (by decide) ?_
            cases h
            refine v_sub [(0, .ref sb), (1, .ref (B + w1)), (2, .ref (B + w2)), (3, .int x_50)] ⟨rfl, rfl, rfl, rfl, trivial⟩ ?_
            have hk_ : n18 ≤ 513 → _ := hk
            exact v_widen (by omega) (by omega) (hk_ (by omega))
          · rw [if_neg c_49] at h
            cases h
        · rw [if_neg c_566] at h
          by_cases c_567 : (x_12 &&& (63 : Int32)) = (2 : Int32)
          · rw [if_pos c_567] at h
            refine v_swIn 288 (2 : Int32) c_567 dL_law_33 (by decide) (by decide) rfl (by decide) ?_
            refine v_aload_n dL_law_288 rfl ?_
            refine v_aload_n dL_law_289 rfl ?_
            refine v_iload_n dL_law_290 rfl ?_
            refine v_iconstE (1 : Int32) dL_law_291 (by decide) ?_
            refine v_iadd dL_law_292 ?_
            replace h := p_bind_elim h
            obtain ⟨x_52, q_53, h⟩ := h
            refine v_sldS dL_law_293 q_53 ?_
            refine v_aload_n dL_law_294 rfl ?_
            refine v_iload_n dL_law_295 rfl ?_
            refine v_iconstE (2 : Int32) dL_law_296 (by decide) ?_
            refine v_iadd dL_law_297 ?_
            replace h := p_bind_elim h
            obtain ⟨x_54, q_55, h⟩ := h
            refine v_sldS dL_law_298 q_55 ?_
            replace h := p_bind_elim h
            obtain ⟨_, q_58, h⟩ := h
            have q_58 := p_ob_spec q_58
            replace h := p_bind_elim h
            obtain ⟨r_56, q_57, h⟩ := h
            refine v_cVr (t_X9_of q_57) cal_X9_of ml_L_23 sel_X9_of q_58 kk_9 dL_law_299 (by omega) (by (try simp only [v_n]); omega) (by (try simp only [v_n]); omega) (Nat.le_of_ble_eq_true rfl) rfl ?_
            refine v_aload_n dL_law_302 rfl ?_
            refine v_aload_n dL_law_303 rfl ?_
            refine v_iload_n dL_law_304 rfl ?_
            refine v_iconstE (1 : Int32) dL_law_305 (by decide) ?_
            refine v_iadd dL_law_306 ?_
            replace h := p_bind_elim h
            obtain ⟨x_59, q_60, h⟩ := h
            refine v_sldS dL_law_307 q_60 ?_
            refine v_aload_n dL_law_308 rfl ?_
            refine v_iload_n dL_law_309 rfl ?_
            refine v_iconstE (2 : Int32) dL_law_310 (by decide) ?_
            refine v_iadd dL_law_311 ?_
            replace h := p_bind_elim h
            obtain ⟨x_61, q_62, h⟩ := h
            refine v_sldS dL_law_312 q_62 ?_
            replace h := p_bind_elim h
            obtain ⟨_, q_65, h⟩ := h
            have q_65 := p_ob_spec q_65
            replace h := p_bind_elim h
            obtain ⟨r_63, q_64, h⟩ := h
            refine v_cVr (t_X10_of q_64) cal_X10_of ml_L_26 sel_X10_of q_65 kk_10 dL_law_313 (by omega) (by (try simp only [v_n]); omega) (by (try simp only [v_n]); omega) (Nat.le_of_ble_eq_true rfl) rfl ?_
            refine v_icmp_eq 1196 dL_law_316 (by decide) (fun c_66 => ?_) (fun c_66 => ?_)
            · rw [if_pos c_66] at h
              replace h := p_let_elim h
              obtain ⟨x_67, h_68, h⟩ := h
              refine v_iincE (6 : Int32) dL_law_1196 (by decide) rfl (by decide) ?_
              rw [← h_68]
              refine v_sub [(0, .ref sb), (1, .ref (B + w1)), (2, .ref (B + w2)), (3, .int x_67)] ⟨rfl, rfl, rfl, rfl, trivial⟩ ?_
              refine v_goto 18 dL_law_1199 (by decide) ?_
              cases h
              refine v_sub [(0, .ref sb), (1, .ref (B + w1)), (2, .ref (B + w2)), (3, .int x_67)] ⟨rfl, rfl, rfl, rfl, trivial⟩ ?_
              have hk_ : n18 ≤ 513 → _ := hk
              exact v_widen (by omega) (by omega) (hk_ (by omega))
            · rw [if_neg c_66] at h
              cases h
          · rw [if_neg c_567] at h
            by_cases c_568 : (x_12 &&& (63 : Int32)) = (3 : Int32)
            · rw [if_pos c_568] at h
              refine v_swIn 321 (3 : Int32) c_568 dL_law_33 (by decide) (by decide) rfl (by decide) ?_
              refine v_aload_n dL_law_321 rfl ?_
              refine v_aload_n dL_law_322 rfl ?_
              refine v_iload_n dL_law_323 rfl ?_
              refine v_iconstE (1 : Int32) dL_law_324 (by decide) ?_
              refine v_iadd dL_law_325 ?_
              replace h := p_bind_elim h
              obtain ⟨x_69, q_70, h⟩ := h
              refine v_sldS dL_law_326 q_70 ?_
              refine v_aload_n dL_law_327 rfl ?_
              refine v_iload_n dL_law_328 rfl ?_
              refine v_iconstE (2 : Int32) dL_law_329 (by decide) ?_
              refine v_iadd dL_law_330 ?_
              replace h := p_bind_elim h
              obtain ⟨x_71, q_72, h⟩ := h
              refine v_sldS dL_law_331 q_72 ?_
              replace h := p_bind_elim h
              obtain ⟨_, q_75, h⟩ := h
              have q_75 := p_ob_spec q_75
              replace h := p_bind_elim h
              obtain ⟨r_73, q_74, h⟩ := h
              refine v_cVr (t_X9_terms q_74) cal_X9_terms ml_L_27 sel_X9_terms q_75 kk_9 dL_law_332 (by omega) (by (try simp only [v_n]); omega) (by (try simp only [v_n]); omega) (Nat.le_of_ble_eq_true rfl) rfl ?_
              refine v_aload_n dL_law_335 rfl ?_
              refine v_aload_n dL_law_336 rfl ?_
              refine v_iload_n dL_law_337 rfl ?_
              refine v_iconstE (1 : Int32) dL_law_338 (by decide) ?_
              refine v_iadd dL_law_339 ?_
              replace h := p_bind_elim h
              obtain ⟨x_76, q_77, h⟩ := h
              refine v_sldS dL_law_340 q_77 ?_
              refine v_aload_n dL_law_341 rfl ?_
              refine v_iload_n dL_law_342 rfl ?_
              refine v_iconstE (2 : Int32) dL_law_343 (by decide) ?_
              refine v_iadd dL_law_344 ?_
              replace h := p_bind_elim h
              obtain ⟨x_78, q_79, h⟩ := h
              refine v_sldS dL_law_345 q_79 ?_
              replace h := p_bind_elim h
              obtain ⟨_, q_82, h⟩ := h
              have q_82 := p_ob_spec q_82
              replace h := p_bind_elim h
              obtain ⟨r_80, q_81, h⟩ := h
              refine v_cVr (t_X10_terms q_81) cal_X10_terms ml_L_30 sel_X10_terms q_82 kk_10 dL_law_346 (by omega) (by (try simp only [v_n]); omega) (by (try simp only [v_n]); omega) (Nat.le_of_ble_eq_true rfl) rfl ?_
              refine v_icmp_eq 1196 dL_law_349 (by decide) (fun c_83 => ?_) (fun c_83 => ?_)
              · rw [if_pos c_83] at h
                replace h := p_let_elim h
                obtain ⟨x_84, h_85, h⟩ := h
                refine v_iincE (6 : Int32) dL_law_1196 (by decide) rfl (by decide) ?_
                rw [← h_85]
                refine v_sub [(0, .ref sb), (1, .ref (B + w1)), (2, .ref (B + w2)), (3, .int x_84)] ⟨rfl, rfl, rfl, rfl, trivial⟩ ?_
                refine v_goto 18 dL_law_1199 (by decide) ?_
                cases h
                refine v_sub [(0, .ref sb), (1, .ref (B + w1)), (2, .ref (B + w2)), (3, .int x_84)] ⟨rfl, rfl, rfl, rfl, trivial⟩ ?_
                have hk_ : n18 ≤ 513 → _ := hk
                exact v_widen (by omega) (by omega) (hk_ (by omega))
              · rw [if_neg c_83] at h
                cases h
            · rw [if_neg c_568] at h
              by_cases c_569 : (x_12 &&& (63 : Int32)) = (4 : Int32)
              · rw [if_pos c_569] at h
                refine v_swIn 354 (4 : Int32) c_569 dL_law_33 (by decide) (by decide) rfl (by decide) ?_
                refine v_aload_n dL_law_354 rfl ?_
                refine v_aload_n dL_law_355 rfl ?_
                refine v_iload_n dL_law_356 rfl ?_
                refine v_iconstE (1 : Int32) dL_law_357 (by decide) ?_
                refine v_iadd dL_law_358 ?_
                replace h := p_bind_elim h
                obtain ⟨x_86, q_87, h⟩ := h
                refine v_sldS dL_law_359 q_87 ?_
                refine v_aload_n dL_law_360 rfl ?_
                refine v_iload_n dL_law_361 rfl ?_
                refine v_iconstE (2 : Int32) dL_law_362 (by decide) ?_
                refine v_iadd dL_law_363 ?_
                replace h := p_bind_elim h
                obtain ⟨x_88, q_89, h⟩ := h
                refine v_sldS dL_law_364 q_89 ?_
                refine v_aload_n dL_law_365 rfl ?_
                refine v_iload_n dL_law_366 rfl ?_
                refine v_iconstE (3 : Int32) dL_law_367 (by decide) ?_
                refine v_iadd dL_law_368 ?_
                replace h := p_bind_elim h
                obtain ⟨x_90, q_91, h⟩ := h
                refine v_sldS dL_law_369 q_91 ?_
                refine v_aload_n dL_law_370 rfl ?_
                refine v_iload_n dL_law_371 rfl ?_
                refine v_iconstE (4 : Int32) dL_law_372 (by decide) ?_
                refine v_iadd dL_law_373 ?_
                replace h := p_bind_elim h
                obtain ⟨x_92, q_93, h⟩ := h
                refine v_sldS dL_law_374 q_93 ?_
                refine v_aload_n dL_law_375 rfl ?_
                refine v_iload_n dL_law_376 rfl ?_
                refine v_iconstE (5 : Int32) dL_law_377 (by decide) ?_
                refine v_iadd dL_law_378 ?_
                replace h := p_bind_elim h
                obtain ⟨x_94, q_95, h⟩ := h
                refine v_sldS dL_law_379 q_95 ?_
                replace h := p_bind_elim h
                obtain ⟨_, q_98, h⟩ := h
                have q_98 := p_ob_spec q_98
                replace h := p_bind_elim h
                obtain ⟨r_96, q_97, h⟩ := h
                refine v_cVr (t_X9_feed q_97) cal_X9_feed ml_L_31 sel_X9_feed q_98 kk_9 dL_law_380 (by omega) (by (try simp only [v_n]); omega) (by (try simp only [v_n]); omega) (Nat.le_of_ble_eq_true rfl) rfl ?_
                refine v_aload_n dL_law_383 rfl ?_
                refine v_aload_n dL_law_384 rfl ?_
                refine v_iload_n dL_law_385 rfl ?_
                refine v_iconstE (1 : Int32) dL_law_386 (by decide) ?_
                refine v_iadd dL_law_387 ?_
                replace h := p_bind_elim h
                obtain ⟨x_99, q_100, h⟩ := h
                refine v_sldS dL_law_388 q_100 ?_
                refine v_aload_n dL_law_389 rfl ?_
                refine v_iload_n dL_law_390 rfl ?_
                refine v_iconstE (2 : Int32) dL_law_391 (by decide) ?_
                refine v_iadd dL_law_392 ?_
                replace h := p_bind_elim h
                obtain ⟨x_101, q_102, h⟩ := h
                refine v_sldS dL_law_393 q_102 ?_
                refine v_aload_n dL_law_394 rfl ?_
                refine v_iload_n dL_law_395 rfl ?_
                refine v_iconstE (3 : Int32) dL_law_396 (by decide) ?_
                refine v_iadd dL_law_397 ?_
                replace h := p_bind_elim h
                obtain ⟨x_103, q_104, h⟩ := h
                refine v_sldS dL_law_398 q_104 ?_
                refine v_aload_n dL_law_399 rfl ?_
                refine v_iload_n dL_law_400 rfl ?_
                refine v_iconstE (4 : Int32) dL_law_401 (by decide) ?_
                refine v_iadd dL_law_402 ?_
                replace h := p_bind_elim h
                obtain ⟨x_105, q_106, h⟩ := h
                refine v_sldS dL_law_403 q_106 ?_
                refine v_aload_n dL_law_404 rfl ?_
                refine v_iload_n dL_law_405 rfl ?_
                refine v_iconstE (5 : Int32) dL_law_406 (by decide) ?_
                refine v_iadd dL_law_407 ?_
                replace h := p_bind_elim h
                obtain ⟨x_107, q_108, h⟩ := h
                refine v_sldS dL_law_408 q_108 ?_
                replace h := p_bind_elim h
                obtain ⟨_, q_111, h⟩ := h
                have q_111 := p_ob_spec q_111
                replace h := p_bind_elim h
                obtain ⟨r_109, q_110, h⟩ := h
                refine v_cVr (t_X10_feed q_110) cal_X10_feed ml_L_35 sel_X10_feed q_111 kk_10 dL_law_409 (by omega) (by (try simp only [v_n]); omega) (by (try simp only [v_n]); omega) (Nat.le_of_ble_eq_true rfl) rfl ?_
                refine v_icmp_eq 1196 dL_law_412 (by decide) (fun c_112 => ?_) (fun c_112 => ?_)
                · rw [if_pos c_112] at h
                  replace h := p_let_elim h
                  obtain ⟨x_113, h_114, h⟩ := h
                  refine v_iincE (6 : Int32) dL_law_1196 (by decide) rfl (by decide) ?_
                  rw [← h_114]
                  refine v_sub [(0, .ref sb), (1, .ref (B + w1)), (2, .ref (B + w2)), (3, .int x_113)] ⟨rfl, rfl, rfl, rfl, trivial⟩ ?_
                  refine v_goto 18 dL_law_1199 (by decide) ?_
                  cases h
                  refine v_sub [(0, .ref sb), (1, .ref (B + w1)), (2, .ref (B + w2)), (3, .int x_113)] ⟨rfl, rfl, rfl, rfl, trivial⟩ ?_
                  have hk_ : n18 ≤ 513 → _ := hk
                  exact v_widen (by omega) (by omega) (hk_ (by omega))
                · rw [if_neg c_112] at h
                  cases h
              · rw [if_neg c_569] at h
                by_cases c_570 : (x_12 &&& (63 : Int32)) = (5 : Int32)
                · rw [if_pos c_570] at h
                  refine v_swIn 417 (5 : Int32) c_570 dL_law_33 (by decide) (by decide) rfl (by decide) ?_
                  refine v_aload_n dL_law_417 rfl ?_
                  refine v_aload_n dL_law_418 rfl ?_
                  refine v_iload_n dL_law_419 rfl ?_
                  refine v_iconstE (1 : Int32) dL_law_420 (by decide) ?_
                  refine v_iadd dL_law_421 ?_
                  replace h := p_bind_elim h
                  obtain ⟨x_115, q_116, h⟩ := h
                  refine v_sldS dL_law_422 q_116 ?_
                  replace h := p_bind_elim h
                  obtain ⟨_, q_119, h⟩ := h
                  have q_119 := p_ob_spec q_119
                  replace h := p_bind_elim h
                  obtain ⟨r_117, q_118, h⟩ := h
                  refine v_cVr (t_X9_end q_118) cal_X9_end ml_L_36 sel_X9_end q_119 kk_9 dL_law_423 (by omega) (by (try simp only [v_n]); omega) (by (try simp only [v_n]); omega) (Nat.le_of_ble_eq_true rfl) rfl ?_
                  refine v_aload_n dL_law_426 rfl ?_
                  refine v_aload_n dL_law_427 rfl ?_
                  refine v_iload_n dL_law_428 rfl ?_
                  refine v_iconstE (1 : Int32) dL_law_429 (by decide) ?_
                  refine v_iadd dL_law_430 ?_
                  replace h := p_bind_elim h
                  obtain ⟨x_120, q_121, h⟩ := h
                  refine v_sldS dL_law_431 q_121 ?_
                  replace h := p_bind_elim h
                  obtain ⟨_, q_124, h⟩ := h
                  have q_124 := p_ob_spec q_124
                  replace h := p_bind_elim h
                  obtain ⟨r_122, q_123, h⟩ := h
                  refine v_cVr (t_X10_end q_123) cal_X10_end ml_L_40 sel_X10_end q_124 kk_10 dL_law_432 (by omega) (by (try simp only [v_n]); omega) (by (try simp only [v_n]); omega) (Nat.le_of_ble_eq_true rfl) rfl ?_
                  refine v_icmp_eq 1196 dL_law_435 (by decide) (fun c_125 => ?_) (fun c_125 => ?_)
                  · rw [if_pos c_125] at h
                    replace h := p_let_elim h
                    obtain ⟨x_126, h_127, h⟩ := h
                    refine v_iincE (6 : Int32) dL_law_1196 (by decide) rfl (by decide) ?_
                    rw [← h_127]
                    refine v_sub [(0, .ref sb), (1, .ref (B + w1)), (2, .ref (B + w2)), (3, .int x_126)] ⟨rfl, rfl, rfl, rfl, trivial⟩ ?_
                    refine v_goto 18 dL_law_1199 (by decide) ?_
                    cases h
                    refine v_sub [(0, .ref sb), (1, .ref (B + w1)), (2, .ref (B + w2)), (3, .int x_126)] ⟨rfl, rfl, rfl, rfl, trivial⟩ ?_
                    have hk_ : n18 ≤ 513 → _ := hk
                    exact v_widen (by omega) (by omega) (hk_ (by omega))
                  · rw [if_neg c_125] at h
                    cases h
                · rw [if_neg c_570] at h
                  by_cases c_571 : (x_12 &&& (63 : Int32)) = (6 : Int32)
                  · rw [if_pos c_571] at h
                    refine v_swIn 440 (6 : Int32) c_571 dL_law_33 (by decide) (by decide) rfl (by decide) ?_
                    refine v_aload_n dL_law_440 rfl ?_
                    replace h := p_bind_elim h
                    obtain ⟨_, q_130, h⟩ := h
                    have q_130 := p_ob_spec q_130
                    replace h := p_bind_elim h
                    obtain ⟨r_128, q_129, h⟩ := h
                    refine v_cVr (t_X9_row q_129) cal_X9_row ml_L_41 sel_X9_row q_130 kk_9 dL_law_441 (by omega) (by (try simp only [v_n]); omega) (by (try simp only [v_n]); omega) (Nat.le_of_ble_eq_true rfl) rfl ?_
                    refine v_aload_n dL_law_444 rfl ?_
                    replace h := p_bind_elim h
                    obtain ⟨_, q_133, h⟩ := h
                    have q_133 := p_ob_spec q_133
                    replace h := p_bind_elim h
                    obtain ⟨r_131, q_132, h⟩ := h
                    refine v_cVr (t_X10_row q_132) cal_X10_row ml_L_45 sel_X10_row q_133 kk_10 dL_law_445 (by omega) (by (try simp only [v_n]); omega) (by (try simp only [v_n]); omega) (Nat.le_of_ble_eq_true rfl) rfl ?_
                    refine v_icmp_eq 1196 dL_law_448 (by decide) (fun c_134 => ?_) (fun c_134 => ?_)
                    · rw [if_pos c_134] at h
                      replace h := p_let_elim h
                      obtain ⟨x_135, h_136, h⟩ := h
                      refine v_iincE (6 : Int32) dL_law_1196 (by decide) rfl (by decide) ?_
                      rw [← h_136]
                      refine v_sub [(0, .ref sb), (1, .ref (B + w1)), (2, .ref (B + w2)), (3, .int x_135)] ⟨rfl, rfl, rfl, rfl, trivial⟩ ?_
                      refine v_goto 18 dL_law_1199 (by decide) ?_
                      cases h
                      refine v_sub [(0, .ref sb), (1, .ref (B + w1)), (2, .ref (B + w2)), (3, .int x_135)] ⟨rfl, rfl, rfl, rfl, trivial⟩ ?_
                      have hk_ : n18 ≤ 513 → _ := hk
                      exact v_widen (by omega) (by omega) (hk_ (by omega))
                    · rw [if_neg c_134] at h
                      cases h
                  · rw [if_neg c_571] at h
                    by_cases c_572 : (x_12 &&& (63 : Int32)) = (7 : Int32)
                    · rw [if_pos c_572] at h
                      refine v_swIn 453 (7 : Int32) c_572 dL_law_33 (by decide) (by decide) rfl (by decide) ?_
                      refine v_aload_n dL_law_453 rfl ?_
                      replace h := p_bind_elim h
                      obtain ⟨_, q_139, h⟩ := h
                      have q_139 := p_ob_spec q_139
                      replace h := p_bind_elim h
                      obtain ⟨r_137, q_138, h⟩ := h
                      refine v_cVr (t_X9_burrs q_138) cal_X9_burrs ml_L_46 sel_X9_burrs q_139 kk_9 dL_law_454 (by omega) (by (try simp only [v_n]); omega) (by (try simp only [v_n]); omega) (Nat.le_of_ble_eq_true rfl) rfl ?_
                      refine v_aload_n dL_law_457 rfl ?_
                      replace h := p_bind_elim h
                      obtain ⟨_, q_142, h⟩ := h
                      have q_142 := p_ob_spec q_142
                      replace h := p_bind_elim h
                      obtain ⟨r_140, q_141, h⟩ := h
                      refine v_cVr (t_X10_burrs q_141) cal_X10_burrs ml_L_49 sel_X10_burrs q_142 kk_10 dL_law_458 (by omega) (by (try simp only [v_n]); omega) (by (try simp only [v_n]); omega) (Nat.le_of_ble_eq_true rfl) rfl ?_
                      refine v_icmp_eq 1196 dL_law_461 (by decide) (fun c_143 => ?_) (fun c_143 => ?_)
                      · rw [if_pos c_143] at h
                        replace h := p_let_elim h
                        obtain ⟨x_144, h_145, h⟩ := h
                        refine v_iincE (6 : Int32) dL_law_1196 (by decide) rfl (by decide) ?_
                        rw [← h_145]
                        refine v_sub [(0, .ref sb), (1, .ref (B + w1)), (2, .ref (B + w2)), (3, .int x_144)] ⟨rfl, rfl, rfl, rfl, trivial⟩ ?_
                        refine v_goto 18 dL_law_1199 (by decide) ?_
                        cases h
                        refine v_sub [(0, .ref sb), (1, .ref (B + w1)), (2, .ref (B + w2)), (3, .int x_144)] ⟨rfl, rfl, rfl, rfl, trivial⟩ ?_
                        have hk_ : n18 ≤ 513 → _ := hk
                        exact v_widen (by omega) (by omega) (hk_ (by omega))
                      · rw [if_neg c_143] at h
                        cases h
                    · rw [if_neg c_572] at h
                      by_cases c_573 : (x_12 &&& (63 : Int32)) = (8 : Int32)
                      · rw [if_pos c_573] at h
                        refine v_swIn 466 (8 : Int32) c_573 dL_law_33 (by decide) (by decide) rfl (by decide) ?_
                        refine v_aload_n dL_law_466 rfl ?_
                        replace h := p_bind_elim h
                        obtain ⟨_, q_148, h⟩ := h
                        have q_148 := p_ob_spec q_148
                        replace h := p_bind_elim h
                        obtain ⟨r_146, q_147, h⟩ := h
                        refine v_cVrc (t_X9_law q_147) cal_X9_law ml_L_50 sel_X9_law q_148 kk_9 dL_law_467 (by omega) (by (try simp only [v_n]); omega) (by (try simp only [v_n]); omega) (Nat.le_of_ble_eq_true rfl) rfl ?_
                        refine v_aload_n dL_law_470 rfl ?_
                        replace h := p_bind_elim h
                        obtain ⟨_, q_151, h⟩ := h
                        have q_151 := p_ob_spec q_151
                        replace h := p_bind_elim h
                        obtain ⟨r_149, q_150, h⟩ := h
                        refine v_cVr (t_X10_law q_150) cal_X10_law ml_L_53 sel_X10_law q_151 kk_10 dL_law_471 (by omega) (by (try simp only [v_n]); omega) (by (try simp only [v_n]); omega) (Nat.le_of_ble_eq_true rfl) rfl ?_
                        refine v_icmp_eq 1196 dL_law_474 (by decide) (fun c_152 => ?_) (fun c_152 => ?_)
                        · rw [if_pos c_152] at h
                          replace h := p_let_elim h
                          obtain ⟨x_153, h_154, h⟩ := h
                          refine v_iincE (6 : Int32) dL_law_1196 (by decide) rfl (by decide) ?_
                          rw [← h_154]
                          refine v_sub [(0, .ref sb), (1, .ref (B + w1)), (2, .ref (B + w2)), (3, .int x_153)] ⟨rfl, rfl, rfl, rfl, trivial⟩ ?_
                          refine v_goto 18 dL_law_1199 (by decide) ?_
                          cases h
                          refine v_sub [(0, .ref sb), (1, .ref (B + w1)), (2, .ref (B + w2)), (3, .int x_153)] ⟨rfl, rfl, rfl, rfl, trivial⟩ ?_
                          have hk_ : n18 ≤ 513 → _ := hk
                          exact v_widen (by omega) (by omega) (hk_ (by omega))
                        · rw [if_neg c_152] at h
                          cases h
                      · rw [if_neg c_573] at h
                        by_cases c_574 : (x_12 &&& (63 : Int32)) = (9 : Int32)
                        · rw [if_pos c_574] at h
                          refine v_swIn 479 (9 : Int32) c_574 dL_law_33 (by decide) (by decide) rfl (by decide) ?_
                          refine v_aload_n dL_law_479 rfl ?_
                          replace h := p_bind_elim h
                          obtain ⟨_, q_157, h⟩ := h
                          have q_157 := p_ob_spec q_157
                          replace h := p_bind_elim h
                          obtain ⟨r_155, q_156, h⟩ := h
                          refine v_cVrc (t_X9_orders q_156) cal_X9_orders ml_L_54 sel_X9_orders q_157 kk_9 dL_law_480 (by omega) (by (try simp only [v_n]); omega) (by (try simp only [v_n]); omega) (Nat.le_of_ble_eq_true rfl) rfl ?_
                          refine v_aload_n dL_law_483 rfl ?_
                          replace h := p_bind_elim h
                          obtain ⟨_, q_160, h⟩ := h
                          have q_160 := p_ob_spec q_160
                          replace h := p_bind_elim h
                          obtain ⟨r_158, q_159, h⟩ := h
                          refine v_cVr (t_X10_orders q_159) cal_X10_orders ml_L_57 sel_X10_orders q_160 kk_10 dL_law_484 (by omega) (by (try simp only [v_n]); omega) (by (try simp only [v_n]); omega) (Nat.le_of_ble_eq_true rfl) rfl ?_
                          refine v_icmp_eq 1196 dL_law_487 (by decide) (fun c_161 => ?_) (fun c_161 => ?_)
                          · rw [if_pos c_161] at h
                            replace h := p_let_elim h
                            obtain ⟨x_162, h_163, h⟩ := h
                            refine v_iincE (6 : Int32) dL_law_1196 (by decide) rfl (by decide) ?_
                            rw [← h_163]
                            refine v_sub [(0, .ref sb), (1, .ref (B + w1)), (2, .ref (B + w2)), (3, .int x_162)] ⟨rfl, rfl, rfl, rfl, trivial⟩ ?_
                            refine v_goto 18 dL_law_1199 (by decide) ?_
                            cases h
                            refine v_sub [(0, .ref sb), (1, .ref (B + w1)), (2, .ref (B + w2)), (3, .int x_162)] ⟨rfl, rfl, rfl, rfl, trivial⟩ ?_
                            have hk_ : n18 ≤ 513 → _ := hk
                            exact v_widen (by omega) (by omega) (hk_ (by omega))
                          · rw [if_neg c_161] at h
                            cases h
                        · rw [if_neg c_574] at h
                          by_cases c_575 : (x_12 &&& (63 : Int32)) = (10 : Int32)
                          · rw [if_pos c_575] at h
                            refine v_swIn 492 (10 : Int32) c_575 dL_law_33 (by decide) (by decide) rfl (by decide) ?_
                            refine v_aload_n dL_law_492 rfl ?_
                            replace h := p_bind_elim h
                            obtain ⟨_, q_166, h⟩ := h
                            have q_166 := p_ob_spec q_166
                            replace h := p_bind_elim h
                            obtain ⟨r_164, q_165, h⟩ := h
                            refine v_cVr (t_X9_fault q_165) cal_X9_fault ml_L_58 sel_X9_fault q_166 kk_9 dL_law_493 (by omega) (by (try simp only [v_n]); omega) (by (try simp only [v_n]); omega) (Nat.le_of_ble_eq_true rfl) rfl ?_
                            refine v_aload_n dL_law_496 rfl ?_
                            replace h := p_bind_elim h
                            obtain ⟨_, q_169, h⟩ := h
                            have q_169 := p_ob_spec q_169
                            replace h := p_bind_elim h
                            obtain ⟨r_167, q_168, h⟩ := h
                            refine v_cVr (t_X10_fault q_168) cal_X10_fault ml_L_61 sel_X10_fault q_169 kk_10 dL_law_497 (by omega) (by (try simp only [v_n]); omega) (by (try simp only [v_n]); omega) (Nat.le_of_ble_eq_true rfl) rfl ?_
                            refine v_icmp_eq 1196 dL_law_500 (by decide) (fun c_170 => ?_) (fun c_170 => ?_)
                            · rw [if_pos c_170] at h
                              replace h := p_let_elim h
                              obtain ⟨x_171, h_172, h⟩ := h
                              refine v_iincE (6 : Int32) dL_law_1196 (by decide) rfl (by decide) ?_
                              rw [← h_172]
                              refine v_sub [(0, .ref sb), (1, .ref (B + w1)), (2, .ref (B + w2)), (3, .int x_171)] ⟨rfl, rfl, rfl, rfl, trivial⟩ ?_
                              refine v_goto 18 dL_law_1199 (by decide) ?_
                              cases h
                              refine v_sub [(0, .ref sb), (1, .ref (B + w1)), (2, .ref (B + w2)), (3, .int x_171)] ⟨rfl, rfl, rfl, rfl, trivial⟩ ?_
                              have hk_ : n18 ≤ 513 → _ := hk
                              exact v_widen (by omega) (by omega) (hk_ (by omega))
                            · rw [if_neg c_170] at h
                              cases h
                          · rw [if_neg c_575] at h
                            by_cases c_576 : (x_12 &&& (63 : Int32)) = (11 : Int32)
                            · rw [if_pos c_576] at h
                              refine v_swIn 505 (11 : Int32) c_576 dL_law_33 (by decide) (by decide) rfl (by decide) ?_
                              refine v_aload_n dL_law_505 rfl ?_
                              replace h := p_bind_elim h
                              obtain ⟨_, q_175, h⟩ := h
                              have q_175 := p_ob_spec q_175
                              replace h := p_bind_elim h
                              obtain ⟨r_173, q_174, h⟩ := h
                              refine v_cVr (t_X9_stopped q_174) cal_X9_stopped ml_L_62 sel_X9_stopped q_175 kk_9 dL_law_506 (by omega) (by (try simp only [v_n]); omega) (by (try simp only [v_n]); omega) (Nat.le_of_ble_eq_true rfl) rfl ?_
                              refine v_aload_n dL_law_509 rfl ?_
                              replace h := p_bind_elim h
                              obtain ⟨_, q_178, h⟩ := h
                              have q_178 := p_ob_spec q_178
                              replace h := p_bind_elim h
                              obtain ⟨r_176, q_177, h⟩ := h
                              refine v_cVr (t_X10_stopped q_177) cal_X10_stopped ml_L_65 sel_X10_stopped q_178 kk_10 dL_law_510 (by omega) (by (try simp only [v_n]); omega) (by (try simp only [v_n]); omega) (Nat.le_of_ble_eq_true rfl) rfl ?_
                              refine v_icmp_eq 1196 dL_law_513 (by decide) (fun c_179 => ?_) (fun c_179 => ?_)
                              · rw [if_pos c_179] at h
                                replace h := p_let_elim h
                                obtain ⟨x_180, h_181, h⟩ := h
                                refine v_iincE (6 : Int32) dL_law_1196 (by decide) rfl (by decide) ?_
                                rw [← h_181]
                                refine v_sub [(0, .ref sb), (1, .ref (B + w1)), (2, .ref (B + w2)), (3, .int x_180)] ⟨rfl, rfl, rfl, rfl, trivial⟩ ?_
                                refine v_goto 18 dL_law_1199 (by decide) ?_
                                cases h
                                refine v_sub [(0, .ref sb), (1, .ref (B + w1)), (2, .ref (B + w2)), (3, .int x_180)] ⟨rfl, rfl, rfl, rfl, trivial⟩ ?_
                                have hk_ : n18 ≤ 513 → _ := hk
                                exact v_widen (by omega) (by omega) (hk_ (by omega))
                              · rw [if_neg c_179] at h
                                cases h
                            · rw [if_neg c_576] at h
                              by_cases c_577 : (x_12 &&& (63 : Int32)) = (12 : Int32)
                              · rw [if_pos c_577] at h
                                refine v_swIn 518 (12 : Int32) c_577 dL_law_33 (by decide) (by decide) rfl (by decide) ?_
                                refine v_aload_n dL_law_518 rfl ?_
                                refine v_aload_n dL_law_519 rfl ?_
                                refine v_iload_n dL_law_520 rfl ?_
                                refine v_iconstE (1 : Int32) dL_law_521 (by decide) ?_
                                refine v_iadd dL_law_522 ?_
                                replace h := p_bind_elim h
                                obtain ⟨x_182, q_183, h⟩ := h
                                refine v_sldS dL_law_523 q_183 ?_
                                replace h := p_bind_elim h
                                obtain ⟨_, q_186, h⟩ := h
                                have q_186 := p_ob_spec q_186
                                replace h := p_bind_elim h
                                obtain ⟨r_184, q_185, h⟩ := h
                                refine v_cVr (t_X9_force q_185) cal_X9_force ml_L_66 sel_X9_force q_186 kk_9 dL_law_524 (by omega) (by (try simp only [v_n]); omega) (by (try simp only [v_n]); omega) (Nat.le_of_ble_eq_true rfl) rfl ?_
                                refine v_aload_n dL_law_527 rfl ?_
                                refine v_aload_n dL_law_528 rfl ?_
                                refine v_iload_n dL_law_529 rfl ?_
                                refine v_iconstE (1 : Int32) dL_law_530 (by decide) ?_
                                refine v_iadd dL_law_531 ?_
                                replace h := p_bind_elim h
                                obtain ⟨x_187, q_188, h⟩ := h
                                refine v_sldS dL_law_532 q_188 ?_
                                replace h := p_bind_elim h
                                obtain ⟨_, q_191, h⟩ := h
                                have q_191 := p_ob_spec q_191
                                replace h := p_bind_elim h
                                obtain ⟨r_189, q_190, h⟩ := h
                                refine v_cVr (t_X10_force q_190) cal_X10_force ml_L_69 sel_X10_force q_191 kk_10 dL_law_533 (by omega) (by (try simp only [v_n]); omega) (by (try simp only [v_n]); omega) (Nat.le_of_ble_eq_true rfl) rfl ?_
                                refine v_icmp_eq 1196 dL_law_536 (by decide) (fun c_192 => ?_) (fun c_192 => ?_)
                                · rw [if_pos c_192] at h
                                  replace h := p_let_elim h
                                  obtain ⟨x_193, h_194, h⟩ := h
                                  refine v_iincE (6 : Int32) dL_law_1196 (by decide) rfl (by decide) ?_
                                  rw [← h_194]
                                  refine v_sub [(0, .ref sb), (1, .ref (B + w1)), (2, .ref (B + w2)), (3, .int x_193)] ⟨rfl, rfl, rfl, rfl, trivial⟩ ?_
                                  refine v_goto 18 dL_law_1199 (by decide) ?_
                                  cases h
                                  refine v_sub [(0, .ref sb), (1, .ref (B + w1)), (2, .ref (B + w2)), (3, .int x_193)] ⟨rfl, rfl, rfl, rfl, trivial⟩ ?_
                                  have hk_ : n18 ≤ 513 → _ := hk
                                  exact v_widen (by omega) (by omega) (hk_ (by omega))
                                · rw [if_neg c_192] at h
                                  cases h
                              · rw [if_neg c_577] at h
                                by_cases c_578 : (x_12 &&& (63 : Int32)) = (13 : Int32)
                                · rw [if_pos c_578] at h
                                  refine v_swIn 541 (13 : Int32) c_578 dL_law_33 (by decide) (by decide) rfl (by decide) ?_
                                  refine v_aload_n dL_law_541 rfl ?_
                                  refine v_aload_n dL_law_542 rfl ?_
                                  refine v_iload_n dL_law_543 rfl ?_
                                  refine v_iconstE (1 : Int32) dL_law_544 (by decide) ?_
                                  refine v_iadd dL_law_545 ?_
                                  replace h := p_bind_elim h
                                  obtain ⟨x_195, q_196, h⟩ := h
                                  refine v_sldS dL_law_546 q_196 ?_
                                  replace h := p_bind_elim h
                                  obtain ⟨_, q_199, h⟩ := h
                                  have q_199 := p_ob_spec q_199
                                  replace h := p_bind_elim h
                                  obtain ⟨r_197, q_198, h⟩ := h
                                  refine v_cVrc (t_X9_touch q_198) cal_X9_touch ml_L_70 sel_X9_touch q_199 kk_9 dL_law_547 (by omega) (by (try simp only [v_n]); omega) (by (try simp only [v_n]); omega) (Nat.le_of_ble_eq_true rfl) rfl ?_
                                  refine v_aload_n dL_law_550 rfl ?_
                                  refine v_aload_n dL_law_551 rfl ?_
                                  refine v_iload_n dL_law_552 rfl ?_
                                  refine v_iconstE (1 : Int32) dL_law_553 (by decide) ?_
                                  refine v_iadd dL_law_554 ?_
                                  replace h := p_bind_elim h
                                  obtain ⟨x_200, q_201, h⟩ := h
                                  refine v_sldS dL_law_555 q_201 ?_
                                  replace h := p_bind_elim h
                                  obtain ⟨_, q_204, h⟩ := h
                                  have q_204 := p_ob_spec q_204
                                  replace h := p_bind_elim h
                                  obtain ⟨r_202, q_203, h⟩ := h
                                  refine v_cVr (t_X10_touch q_203) cal_X10_touch ml_L_73 sel_X10_touch q_204 kk_10 dL_law_556 (by omega) (by (try simp only [v_n]); omega) (by (try simp only [v_n]); omega) (Nat.le_of_ble_eq_true rfl) rfl ?_
                                  refine v_icmp_eq 1196 dL_law_559 (by decide) (fun c_205 => ?_) (fun c_205 => ?_)
                                  · rw [if_pos c_205] at h
                                    replace h := p_let_elim h
                                    obtain ⟨x_206, h_207, h⟩ := h
                                    refine v_iincE (6 : Int32) dL_law_1196 (by decide) rfl (by decide) ?_
                                    rw [← h_207]
                                    refine v_sub [(0, .ref sb), (1, .ref (B + w1)), (2, .ref (B + w2)), (3, .int x_206)] ⟨rfl, rfl, rfl, rfl, trivial⟩ ?_
                                    refine v_goto 18 dL_law_1199 (by decide) ?_
                                    cases h
                                    refine v_sub [(0, .ref sb), (1, .ref (B + w1)), (2, .ref (B + w2)), (3, .int x_206)] ⟨rfl, rfl, rfl, rfl, trivial⟩ ?_
                                    have hk_ : n18 ≤ 513 → _ := hk
                                    exact v_widen (by omega) (by omega) (hk_ (by omega))
                                  · rw [if_neg c_205] at h
                                    cases h
                                · rw [if_neg c_578] at h
                                  by_cases c_579 : (x_12 &&& (63 : Int32)) = (14 : Int32)
                                  · rw [if_pos c_579] at h
                                    refine v_swIn 564 (14 : Int32) c_579 dL_law_33 (by decide) (by decide) rfl (by decide) ?_
                                    refine v_aload_n dL_law_564 rfl ?_
                                    refine v_aload_n dL_law_565 rfl ?_
                                    refine v_iload_n dL_law_566 rfl ?_
                                    refine v_iconstE (1 : Int32) dL_law_567 (by decide) ?_
                                    refine v_iadd dL_law_568 ?_
                                    replace h := p_bind_elim h
                                    obtain ⟨x_208, q_209, h⟩ := h
                                    refine v_sldS dL_law_569 q_209 ?_
                                    replace h := p_bind_elim h
                                    obtain ⟨_, q_212, h⟩ := h
                                    have q_212 := p_ob_spec q_212
                                    replace h := p_bind_elim h
                                    obtain ⟨r_210, q_211, h⟩ := h
                                    refine v_cVrc (t_X9_coax q_211) cal_X9_coax ml_L_74 sel_X9_coax q_212 kk_9 dL_law_570 (by omega) (by (try simp only [v_n]); omega) (by (try simp only [v_n]); omega) (Nat.le_of_ble_eq_true rfl) rfl ?_
                                    refine v_aload_n dL_law_573 rfl ?_
                                    refine v_aload_n dL_law_574 rfl ?_
                                    refine v_iload_n dL_law_575 rfl ?_
                                    refine v_iconstE (1 : Int32) dL_law_576 (by decide) ?_
                                    refine v_iadd dL_law_577 ?_
                                    replace h := p_bind_elim h
                                    obtain ⟨x_213, q_214, h⟩ := h
                                    refine v_sldS dL_law_578 q_214 ?_
                                    replace h := p_bind_elim h
                                    obtain ⟨_, q_217, h⟩ := h
                                    have q_217 := p_ob_spec q_217
                                    replace h := p_bind_elim h
                                    obtain ⟨r_215, q_216, h⟩ := h
                                    refine v_cVr (t_X10_coax q_216) cal_X10_coax ml_L_77 sel_X10_coax q_217 kk_10 dL_law_579 (by omega) (by (try simp only [v_n]); omega) (by (try simp only [v_n]); omega) (Nat.le_of_ble_eq_true rfl) rfl ?_
                                    refine v_icmp_eq 1196 dL_law_582 (by decide) (fun c_218 => ?_) (fun c_218 => ?_)
                                    · rw [if_pos c_218] at h
                                      replace h := p_let_elim h
                                      obtain ⟨x_219, h_220, h⟩ := h
                                      refine v_iincE (6 : Int32) dL_law_1196 (by decide) rfl (by decide) ?_
                                      rw [← h_220]
                                      refine v_sub [(0, .ref sb), (1, .ref (B + w1)), (2, .ref (B + w2)), (3, .int x_219)] ⟨rfl, rfl, rfl, rfl, trivial⟩ ?_
                                      refine v_goto 18 dL_law_1199 (by decide) ?_
                                      cases h
                                      refine v_sub [(0, .ref sb), (1, .ref (B + w1)), (2, .ref (B + w2)), (3, .int x_219)] ⟨rfl, rfl, rfl, rfl, trivial⟩ ?_
                                      have hk_ : n18 ≤ 513 → _ := hk
                                      exact v_widen (by omega) (by omega) (hk_ (by omega))
                                    · rw [if_neg c_218] at h
                                      cases h
                                  · rw [if_neg c_579] at h
                                    by_cases c_580 : (x_12 &&& (63 : Int32)) = (15 : Int32)
                                    · rw [if_pos c_580] at h
                                      refine v_swIn 587 (15 : Int32) c_580 dL_law_33 (by decide) (by decide) rfl (by decide) ?_
                                      refine v_aload_n dL_law_587 rfl ?_
                                      refine v_aload_n dL_law_588 rfl ?_
                                      refine v_iload_n dL_law_589 rfl ?_
                                      refine v_iconstE (1 : Int32) dL_law_590 (by decide) ?_
                                      refine v_iadd dL_law_591 ?_
                                      replace h := p_bind_elim h
                                      obtain ⟨x_221, q_222, h⟩ := h
                                      refine v_sldS dL_law_592 q_222 ?_
                                      refine v_aload_n dL_law_593 rfl ?_
                                      refine v_iload_n dL_law_594 rfl ?_
                                      refine v_iconstE (2 : Int32) dL_law_595 (by decide) ?_
                                      refine v_iadd dL_law_596 ?_
                                      replace h := p_bind_elim h
                                      obtain ⟨x_223, q_224, h⟩ := h
                                      refine v_sldS dL_law_597 q_224 ?_
                                      replace h := p_bind_elim h
                                      obtain ⟨_, q_227, h⟩ := h
                                      have q_227 := p_ob_spec q_227
                                      replace h := p_bind_elim h
                                      obtain ⟨r_225, q_226, h⟩ := h
                                      refine v_cVrc (t_X9_tempt q_226) cal_X9_tempt ml_L_78 sel_X9_tempt q_227 kk_9 dL_law_598 (by omega) (by (try simp only [v_n]); omega) (by (try simp only [v_n]); omega) (Nat.le_of_ble_eq_true rfl) rfl ?_
                                      refine v_aload_n dL_law_601 rfl ?_
                                      refine v_aload_n dL_law_602 rfl ?_
                                      refine v_iload_n dL_law_603 rfl ?_
                                      refine v_iconstE (1 : Int32) dL_law_604 (by decide) ?_
                                      refine v_iadd dL_law_605 ?_
                                      replace h := p_bind_elim h
                                      obtain ⟨x_228, q_229, h⟩ := h
                                      refine v_sldS dL_law_606 q_229 ?_
                                      refine v_aload_n dL_law_607 rfl ?_
                                      refine v_iload_n dL_law_608 rfl ?_
                                      refine v_iconstE (2 : Int32) dL_law_609 (by decide) ?_
                                      refine v_iadd dL_law_610 ?_
                                      replace h := p_bind_elim h
                                      obtain ⟨x_230, q_231, h⟩ := h
                                      refine v_sldS dL_law_611 q_231 ?_
                                      replace h := p_bind_elim h
                                      obtain ⟨_, q_234, h⟩ := h
                                      have q_234 := p_ob_spec q_234
                                      replace h := p_bind_elim h
                                      obtain ⟨r_232, q_233, h⟩ := h
                                      refine v_cVr (t_X10_tempt q_233) cal_X10_tempt ml_L_81 sel_X10_tempt q_234 kk_10 dL_law_612 (by omega) (by (try simp only [v_n]); omega) (by (try simp only [v_n]); omega) (Nat.le_of_ble_eq_true rfl) rfl ?_
                                      refine v_icmp_eq 1196 dL_law_615 (by decide) (fun c_235 => ?_) (fun c_235 => ?_)
                                      · rw [if_pos c_235] at h
                                        replace h := p_let_elim h
                                        obtain ⟨x_236, h_237, h⟩ := h
                                        refine v_iincE (6 : Int32) dL_law_1196 (by decide) rfl (by decide) ?_
                                        rw [← h_237]
                                        refine v_sub [(0, .ref sb), (1, .ref (B + w1)), (2, .ref (B + w2)), (3, .int x_236)] ⟨rfl, rfl, rfl, rfl, trivial⟩ ?_
                                        refine v_goto 18 dL_law_1199 (by decide) ?_
                                        cases h
                                        refine v_sub [(0, .ref sb), (1, .ref (B + w1)), (2, .ref (B + w2)), (3, .int x_236)] ⟨rfl, rfl, rfl, rfl, trivial⟩ ?_
                                        have hk_ : n18 ≤ 513 → _ := hk
                                        exact v_widen (by omega) (by omega) (hk_ (by omega))
                                      · rw [if_neg c_235] at h
                                        cases h
                                    · rw [if_neg c_580] at h
                                      by_cases c_581 : (x_12 &&& (63 : Int32)) = (16 : Int32)
                                      · rw [if_pos c_581] at h
                                        refine v_swIn 620 (16 : Int32) c_581 dL_law_33 (by decide) (by decide) rfl (by decide) ?_
                                        refine v_aload_n dL_law_620 rfl ?_
                                        replace h := p_bind_elim h
                                        obtain ⟨_, q_240, h⟩ := h
                                        have q_240 := p_ob_spec q_240
                                        replace h := p_bind_elim h
                                        obtain ⟨r_238, q_239, h⟩ := h
                                        refine v_cVrc (t_X9_pass q_239) cal_X9_pass ml_L_82 sel_X9_pass q_240 kk_9 dL_law_621 (by omega) (by (try simp only [v_n]); omega) (by (try simp only [v_n]); omega) (Nat.le_of_ble_eq_true rfl) rfl ?_
                                        refine v_aload_n dL_law_624 rfl ?_
                                        replace h := p_bind_elim h
                                        obtain ⟨_, q_243, h⟩ := h
                                        have q_243 := p_ob_spec q_243
                                        replace h := p_bind_elim h
                                        obtain ⟨r_241, q_242, h⟩ := h
                                        refine v_cVr (t_X10_pass q_242) cal_X10_pass ml_L_85 sel_X10_pass q_243 kk_10 dL_law_625 (by omega) (by (try simp only [v_n]); omega) (by (try simp only [v_n]); omega) (Nat.le_of_ble_eq_true rfl) rfl ?_
                                        refine v_icmp_eq 1196 dL_law_628 (by decide) (fun c_244 => ?_) (fun c_244 => ?_)
                                        · rw [if_pos c_244] at h
                                          replace h := p_let_elim h
                                          obtain ⟨x_245, h_246, h⟩ := h
                                          refine v_iincE (6 : Int32) dL_law_1196 (by decide) rfl (by decide) ?_
                                          rw [← h_246]
                                          refine v_sub [(0, .ref sb), (1, .ref (B + w1)), (2, .ref (B + w2)), (3, .int x_245)] ⟨rfl, rfl, rfl, rfl, trivial⟩ ?_
                                          refine v_goto 18 dL_law_1199 (by decide) ?_
                                          cases h
                                          refine v_sub [(0, .ref sb), (1, .ref (B + w1)), (2, .ref (B + w2)), (3, .int x_245)] ⟨rfl, rfl, rfl, rfl, trivial⟩ ?_
                                          have hk_ : n18 ≤ 513 → _ := hk
                                          exact v_widen (by omega) (by omega) (hk_ (by omega))
                                        · rw [if_neg c_244] at h
                                          cases h
                                      · rw [if_neg c_581] at h
                                        by_cases c_582 : (x_12 &&& (63 : Int32)) = (17 : Int32)
                                        · rw [if_pos c_582] at h
                                          refine v_swIn 633 (17 : Int32) c_582 dL_law_33 (by decide) (by decide) rfl (by decide) ?_
                                          refine v_aload_n dL_law_633 rfl ?_
                                          replace h := p_bind_elim h
                                          obtain ⟨_, q_249, h⟩ := h
                                          have q_249 := p_ob_spec q_249
                                          replace h := p_bind_elim h
                                          obtain ⟨r_247, q_248, h⟩ := h
                                          refine v_cVr (t_X9_undo q_248) cal_X9_undo ml_L_86 sel_X9_undo q_249 kk_9 dL_law_634 (by omega) (by (try simp only [v_n]); omega) (by (try simp only [v_n]); omega) (Nat.le_of_ble_eq_true rfl) rfl ?_
                                          refine v_aload_n dL_law_637 rfl ?_
                                          replace h := p_bind_elim h
                                          obtain ⟨_, q_252, h⟩ := h
                                          have q_252 := p_ob_spec q_252
                                          replace h := p_bind_elim h
                                          obtain ⟨r_250, q_251, h⟩ := h
                                          refine v_cVr (t_X10_undo q_251) cal_X10_undo ml_L_89 sel_X10_undo q_252 kk_10 dL_law_638 (by omega) (by (try simp only [v_n]); omega) (by (try simp only [v_n]); omega) (Nat.le_of_ble_eq_true rfl) rfl ?_
                                          refine v_icmp_eq 1196 dL_law_641 (by decide) (fun c_253 => ?_) (fun c_253 => ?_)
                                          · rw [if_pos c_253] at h
                                            replace h := p_let_elim h
                                            obtain ⟨x_254, h_255, h⟩ := h
                                            refine v_iincE (6 : Int32) dL_law_1196 (by decide) rfl (by decide) ?_
                                            rw [← h_255]
                                            refine v_sub [(0, .ref sb), (1, .ref (B + w1)), (2, .ref (B + w2)), (3, .int x_254)] ⟨rfl, rfl, rfl, rfl, trivial⟩ ?_
                                            refine v_goto 18 dL_law_1199 (by decide) ?_
                                            cases h
                                            refine v_sub [(0, .ref sb), (1, .ref (B + w1)), (2, .ref (B + w2)), (3, .int x_254)] ⟨rfl, rfl, rfl, rfl, trivial⟩ ?_
                                            have hk_ : n18 ≤ 513 → _ := hk
                                            exact v_widen (by omega) (by omega) (hk_ (by omega))
                                          · rw [if_neg c_253] at h
                                            cases h
                                        · rw [if_neg c_582] at h
                                          by_cases c_583 : (x_12 &&& (63 : Int32)) = (18 : Int32)
                                          · rw [if_pos c_583] at h
                                            refine v_swIn 646 (18 : Int32) c_583 dL_law_33 (by decide) (by decide) rfl (by decide) ?_
                                            refine v_aload_n dL_law_646 rfl ?_
                                            refine v_aload_n dL_law_647 rfl ?_
                                            refine v_iload_n dL_law_648 rfl ?_
                                            refine v_iconstE (1 : Int32) dL_law_649 (by decide) ?_
                                            refine v_iadd dL_law_650 ?_
                                            replace h := p_bind_elim h
                                            obtain ⟨x_256, q_257, h⟩ := h
                                            refine v_sldS dL_law_651 q_257 ?_
                                            replace h := p_bind_elim h
                                            obtain ⟨_, q_260, h⟩ := h
                                            have q_260 := p_ob_spec q_260
                                            replace h := p_bind_elim h
                                            obtain ⟨r_258, q_259, h⟩ := h
                                            refine v_cVr (t_X9_later q_259) cal_X9_later ml_L_90 sel_X9_later q_260 kk_9 dL_law_652 (by omega) (by (try simp only [v_n]); omega) (by (try simp only [v_n]); omega) (Nat.le_of_ble_eq_true rfl) rfl ?_
                                            refine v_aload_n dL_law_655 rfl ?_
                                            refine v_aload_n dL_law_656 rfl ?_
                                            refine v_iload_n dL_law_657 rfl ?_
                                            refine v_iconstE (1 : Int32) dL_law_658 (by decide) ?_
                                            refine v_iadd dL_law_659 ?_
                                            replace h := p_bind_elim h
                                            obtain ⟨x_261, q_262, h⟩ := h
                                            refine v_sldS dL_law_660 q_262 ?_
                                            replace h := p_bind_elim h
                                            obtain ⟨_, q_265, h⟩ := h
                                            have q_265 := p_ob_spec q_265
                                            replace h := p_bind_elim h
                                            obtain ⟨r_263, q_264, h⟩ := h
                                            refine v_cVr (t_X10_later q_264) cal_X10_later ml_L_93 sel_X10_later q_265 kk_10 dL_law_661 (by omega) (by (try simp only [v_n]); omega) (by (try simp only [v_n]); omega) (Nat.le_of_ble_eq_true rfl) rfl ?_
                                            refine v_icmp_eq 1196 dL_law_664 (by decide) (fun c_266 => ?_) (fun c_266 => ?_)
                                            · rw [if_pos c_266] at h
                                              replace h := p_let_elim h
                                              obtain ⟨x_267, h_268, h⟩ := h
                                              refine v_iincE (6 : Int32) dL_law_1196 (by decide) rfl (by decide) ?_
                                              rw [← h_268]
                                              refine v_sub [(0, .ref sb), (1, .ref (B + w1)), (2, .ref (B + w2)), (3, .int x_267)] ⟨rfl, rfl, rfl, rfl, trivial⟩ ?_
                                              refine v_goto 18 dL_law_1199 (by decide) ?_
                                              cases h
                                              refine v_sub [(0, .ref sb), (1, .ref (B + w1)), (2, .ref (B + w2)), (3, .int x_267)] ⟨rfl, rfl, rfl, rfl, trivial⟩ ?_
                                              have hk_ : n18 ≤ 513 → _ := hk
                                              exact v_widen (by omega) (by omega) (hk_ (by omega))
                                            · rw [if_neg c_266] at h
                                              cases h
                                          · rw [if_neg c_583] at h
                                            by_cases c_584 : (x_12 &&& (63 : Int32)) = (19 : Int32)
                                            · rw [if_pos c_584] at h
                                              refine v_swIn 669 (19 : Int32) c_584 dL_law_33 (by decide) (by decide) rfl (by decide) ?_
                                              refine v_aload_n dL_law_669 rfl ?_
                                              refine v_aload_n dL_law_670 rfl ?_
                                              refine v_iload_n dL_law_671 rfl ?_
                                              refine v_iconstE (1 : Int32) dL_law_672 (by decide) ?_
                                              refine v_iadd dL_law_673 ?_
                                              replace h := p_bind_elim h
                                              obtain ⟨x_269, q_270, h⟩ := h
                                              refine v_sldS dL_law_674 q_270 ?_
                                              replace h := p_bind_elim h
                                              obtain ⟨_, q_273, h⟩ := h
                                              have q_273 := p_ob_spec q_273
                                              replace h := p_bind_elim h
                                              obtain ⟨r_271, q_272, h⟩ := h
                                              refine v_cVr (t_X9_opens q_272) cal_X9_opens ml_L_94 sel_X9_opens q_273 kk_9 dL_law_675 (by omega) (by (try simp only [v_n]); omega) (by (try simp only [v_n]); omega) (Nat.le_of_ble_eq_true rfl) rfl ?_
                                              refine v_aload_n dL_law_678 rfl ?_
                                              refine v_aload_n dL_law_679 rfl ?_
                                              refine v_iload_n dL_law_680 rfl ?_
                                              refine v_iconstE (1 : Int32) dL_law_681 (by decide) ?_
                                              refine v_iadd dL_law_682 ?_
                                              replace h := p_bind_elim h
                                              obtain ⟨x_274, q_275, h⟩ := h
                                              refine v_sldS dL_law_683 q_275 ?_
                                              replace h := p_bind_elim h
                                              obtain ⟨_, q_278, h⟩ := h
                                              have q_278 := p_ob_spec q_278
                                              replace h := p_bind_elim h
                                              obtain ⟨r_276, q_277, h⟩ := h
                                              refine v_cVr (t_X10_opens q_277) cal_X10_opens ml_L_97 sel_X10_opens q_278 kk_10 dL_law_684 (by omega) (by (try simp only [v_n]); omega) (by (try simp only [v_n]); omega) (Nat.le_of_ble_eq_true rfl) rfl ?_
                                              refine v_icmp_eq 1196 dL_law_687 (by decide) (fun c_279 => ?_) (fun c_279 => ?_)
                                              · rw [if_pos c_279] at h
                                                replace h := p_let_elim h
                                                obtain ⟨x_280, h_281, h⟩ := h
                                                refine v_iincE (6 : Int32) dL_law_1196 (by decide) rfl (by decide) ?_
                                                rw [← h_281]
                                                refine v_sub [(0, .ref sb), (1, .ref (B + w1)), (2, .ref (B + w2)), (3, .int x_280)] ⟨rfl, rfl, rfl, rfl, trivial⟩ ?_
                                                refine v_goto 18 dL_law_1199 (by decide) ?_
                                                cases h
                                                refine v_sub [(0, .ref sb), (1, .ref (B + w1)), (2, .ref (B + w2)), (3, .int x_280)] ⟨rfl, rfl, rfl, rfl, trivial⟩ ?_
                                                have hk_ : n18 ≤ 513 → _ := hk
                                                exact v_widen (by omega) (by omega) (hk_ (by omega))
                                              · rw [if_neg c_279] at h
                                                cases h
                                            · rw [if_neg c_584] at h
                                              by_cases c_585 : (x_12 &&& (63 : Int32)) = (20 : Int32)
                                              · rw [if_pos c_585] at h
                                                refine v_swIn 692 (20 : Int32) c_585 dL_law_33 (by decide) (by decide) rfl (by decide) ?_
                                                refine v_aload_n dL_law_692 rfl ?_
                                                replace h := p_bind_elim h
                                                obtain ⟨_, q_284, h⟩ := h
                                                have q_284 := p_ob_spec q_284
                                                replace h := p_bind_elim h
                                                obtain ⟨r_282, q_283, h⟩ := h
                                                refine v_cVr (t_X9_together q_283) cal_X9_together ml_L_98 sel_X9_together q_284 kk_9 dL_law_693 (by omega) (by (try simp only [v_n]); omega) (by (try simp only [v_n]); omega) (Nat.le_of_ble_eq_true rfl) rfl ?_
                                                refine v_aload_n dL_law_696 rfl ?_
                                                replace h := p_bind_elim h
                                                obtain ⟨_, q_287, h⟩ := h
                                                have q_287 := p_ob_spec q_287
                                                replace h := p_bind_elim h
                                                obtain ⟨r_285, q_286, h⟩ := h
                                                refine v_cVr (t_X10_together q_286) cal_X10_together ml_L_101 sel_X10_together q_287 kk_10 dL_law_697 (by omega) (by (try simp only [v_n]); omega) (by (try simp only [v_n]); omega) (Nat.le_of_ble_eq_true rfl) rfl ?_
                                                refine v_icmp_eq 1196 dL_law_700 (by decide) (fun c_288 => ?_) (fun c_288 => ?_)
                                                · rw [if_pos c_288] at h
                                                  replace h := p_let_elim h
                                                  obtain ⟨x_289, h_290, h⟩ := h
                                                  refine v_iincE (6 : Int32) dL_law_1196 (by decide) rfl (by decide) ?_
                                                  rw [← h_290]
                                                  refine v_sub [(0, .ref sb), (1, .ref (B + w1)), (2, .ref (B + w2)), (3, .int x_289)] ⟨rfl, rfl, rfl, rfl, trivial⟩ ?_
                                                  refine v_goto 18 dL_law_1199 (by decide) ?_
                                                  cases h
                                                  refine v_sub [(0, .ref sb), (1, .ref (B + w1)), (2, .ref (B + w2)), (3, .int x_289)] ⟨rfl, rfl, rfl, rfl, trivial⟩ ?_
                                                  have hk_ : n18 ≤ 513 → _ := hk
                                                  exact v_widen (by omega) (by omega) (hk_ (by omega))
                                                · rw [if_neg c_288] at h
                                                  cases h
                                              · rw [if_neg c_585] at h
                                                by_cases c_586 : (x_12 &&& (63 : Int32)) = (21 : Int32)
                                                · rw [if_pos c_586] at h
                                                  refine v_swIn 705 (21 : Int32) c_586 dL_law_33 (by decide) (by decide) rfl (by decide) ?_
                                                  refine v_aload_n dL_law_705 rfl ?_
                                                  replace h := p_bind_elim h
                                                  obtain ⟨_, q_293, h⟩ := h
                                                  have q_293 := p_ob_spec q_293
                                                  replace h := p_bind_elim h
                                                  obtain ⟨r_291, q_292, h⟩ := h
                                                  refine v_cVr (t_X9_again q_292) cal_X9_again ml_L_102 sel_X9_again q_293 kk_9 dL_law_706 (by omega) (by (try simp only [v_n]); omega) (by (try simp only [v_n]); omega) (Nat.le_of_ble_eq_true rfl) rfl ?_
                                                  refine v_aload_n dL_law_709 rfl ?_
                                                  replace h := p_bind_elim h
                                                  obtain ⟨_, q_296, h⟩ := h
                                                  have q_296 := p_ob_spec q_296
                                                  replace h := p_bind_elim h
                                                  obtain ⟨r_294, q_295, h⟩ := h
                                                  refine v_cVr (t_X10_again q_295) cal_X10_again ml_L_105 sel_X10_again q_296 kk_10 dL_law_710 (by omega) (by (try simp only [v_n]); omega) (by (try simp only [v_n]); omega) (Nat.le_of_ble_eq_true rfl) rfl ?_
                                                  refine v_icmp_eq 1196 dL_law_713 (by decide) (fun c_297 => ?_) (fun c_297 => ?_)
                                                  · rw [if_pos c_297] at h
                                                    replace h := p_let_elim h
                                                    obtain ⟨x_298, h_299, h⟩ := h
                                                    refine v_iincE (6 : Int32) dL_law_1196 (by decide) rfl (by decide) ?_
                                                    rw [← h_299]
                                                    refine v_sub [(0, .ref sb), (1, .ref (B + w1)), (2, .ref (B + w2)), (3, .int x_298)] ⟨rfl, rfl, rfl, rfl, trivial⟩ ?_
                                                    refine v_goto 18 dL_law_1199 (by decide) ?_
                                                    cases h
                                                    refine v_sub [(0, .ref sb), (1, .ref (B + w1)), (2, .ref (B + w2)), (3, .int x_298)] ⟨rfl, rfl, rfl, rfl, trivial⟩ ?_
                                                    have hk_ : n18 ≤ 513 → _ := hk
                                                    exact v_widen (by omega) (by omega) (hk_ (by omega))
                                                  · rw [if_neg c_297] at h
                                                    cases h
                                                · rw [if_neg c_586] at h
                                                  by_cases c_587 : (x_12 &&& (63 : Int32)) = (22 : Int32)
                                                  · rw [if_pos c_587] at h
                                                    refine v_swIn 718 (22 : Int32) c_587 dL_law_33 (by decide) (by decide) rfl (by decide) ?_
                                                    refine v_aload_n dL_law_718 rfl ?_
                                                    refine v_aload_n dL_law_719 rfl ?_
                                                    refine v_iload_n dL_law_720 rfl ?_
                                                    refine v_iconstE (1 : Int32) dL_law_721 (by decide) ?_
                                                    refine v_iadd dL_law_722 ?_
                                                    replace h := p_bind_elim h
                                                    obtain ⟨x_300, q_301, h⟩ := h
                                                    refine v_sldS dL_law_723 q_301 ?_
                                                    replace h := p_bind_elim h
                                                    obtain ⟨_, q_304, h⟩ := h
                                                    have q_304 := p_ob_spec q_304
                                                    replace h := p_bind_elim h
                                                    obtain ⟨r_302, q_303, h⟩ := h
                                                    refine v_cVr (t_X9_seeds q_303) cal_X9_seeds ml_L_106 sel_X9_seeds q_304 kk_9 dL_law_724 (by omega) (by (try simp only [v_n]); omega) (by (try simp only [v_n]); omega) (Nat.le_of_ble_eq_true rfl) rfl ?_
                                                    refine v_aload_n dL_law_727 rfl ?_
                                                    refine v_aload_n dL_law_728 rfl ?_
                                                    refine v_iload_n dL_law_729 rfl ?_
                                                    refine v_iconstE (1 : Int32) dL_law_730 (by decide) ?_
                                                    refine v_iadd dL_law_731 ?_
                                                    replace h := p_bind_elim h
                                                    obtain ⟨x_305, q_306, h⟩ := h
                                                    refine v_sldS dL_law_732 q_306 ?_
                                                    replace h := p_bind_elim h
                                                    obtain ⟨_, q_309, h⟩ := h
                                                    have q_309 := p_ob_spec q_309
                                                    replace h := p_bind_elim h
                                                    obtain ⟨r_307, q_308, h⟩ := h
                                                    refine v_cVr (t_X10_seeds q_308) cal_X10_seeds ml_L_109 sel_X10_seeds q_309 kk_10 dL_law_733 (by omega) (by (try simp only [v_n]); omega) (by (try simp only [v_n]); omega) (Nat.le_of_ble_eq_true rfl) rfl ?_
                                                    refine v_icmp_eq 1196 dL_law_736 (by decide) (fun c_310 => ?_) (fun c_310 => ?_)
                                                    · rw [if_pos c_310] at h
                                                      replace h := p_let_elim h
                                                      obtain ⟨x_311, h_312, h⟩ := h
                                                      refine v_iincE (6 : Int32) dL_law_1196 (by decide) rfl (by decide) ?_
                                                      rw [← h_312]
                                                      refine v_sub [(0, .ref sb), (1, .ref (B + w1)), (2, .ref (B + w2)), (3, .int x_311)] ⟨rfl, rfl, rfl, rfl, trivial⟩ ?_
                                                      refine v_goto 18 dL_law_1199 (by decide) ?_
                                                      cases h
                                                      refine v_sub [(0, .ref sb), (1, .ref (B + w1)), (2, .ref (B + w2)), (3, .int x_311)] ⟨rfl, rfl, rfl, rfl, trivial⟩ ?_
                                                      have hk_ : n18 ≤ 513 → _ := hk
                                                      exact v_widen (by omega) (by omega) (hk_ (by omega))
                                                    · rw [if_neg c_310] at h
                                                      cases h
                                                  · rw [if_neg c_587] at h
                                                    by_cases c_588 : (x_12 &&& (63 : Int32)) = (23 : Int32)
                                                    · rw [if_pos c_588] at h
                                                      refine v_swIn 741 (23 : Int32) c_588 dL_law_33 (by decide) (by decide) rfl (by decide) ?_
                                                      refine v_aload_n dL_law_741 rfl ?_
                                                      refine v_aload_n dL_law_742 rfl ?_
                                                      refine v_iload_n dL_law_743 rfl ?_
                                                      refine v_iconstE (1 : Int32) dL_law_744 (by decide) ?_
                                                      refine v_iadd dL_law_745 ?_
                                                      replace h := p_bind_elim h
                                                      obtain ⟨x_313, q_314, h⟩ := h
                                                      refine v_sldS dL_law_746 q_314 ?_
                                                      refine v_aload_n dL_law_747 rfl ?_
                                                      refine v_iload_n dL_law_748 rfl ?_
                                                      refine v_iconstE (2 : Int32) dL_law_749 (by decide) ?_
                                                      refine v_iadd dL_law_750 ?_
                                                      replace h := p_bind_elim h
                                                      obtain ⟨x_315, q_316, h⟩ := h
                                                      refine v_sldS dL_law_751 q_316 ?_
                                                      replace h := p_bind_elim h
                                                      obtain ⟨_, q_319, h⟩ := h
                                                      have q_319 := p_ob_spec q_319
                                                      replace h := p_bind_elim h
                                                      obtain ⟨r_317, q_318, h⟩ := h
                                                      refine v_cVr (t_X9_seedsFor q_318) cal_X9_seedsFor ml_L_110 sel_X9_seedsFor q_319 kk_9 dL_law_752 (by omega) (by (try simp only [v_n]); omega) (by (try simp only [v_n]); omega) (Nat.le_of_ble_eq_true rfl) rfl ?_
                                                      refine v_aload_n dL_law_755 rfl ?_
                                                      refine v_aload_n dL_law_756 rfl ?_
                                                      refine v_iload_n dL_law_757 rfl ?_
                                                      refine v_iconstE (1 : Int32) dL_law_758 (by decide) ?_
                                                      refine v_iadd dL_law_759 ?_
                                                      replace h := p_bind_elim h
                                                      obtain ⟨x_320, q_321, h⟩ := h
                                                      refine v_sldS dL_law_760 q_321 ?_
                                                      refine v_aload_n dL_law_761 rfl ?_
                                                      refine v_iload_n dL_law_762 rfl ?_
                                                      refine v_iconstE (2 : Int32) dL_law_763 (by decide) ?_
                                                      refine v_iadd dL_law_764 ?_
                                                      replace h := p_bind_elim h
                                                      obtain ⟨x_322, q_323, h⟩ := h
                                                      refine v_sldS dL_law_765 q_323 ?_
                                                      replace h := p_bind_elim h
                                                      obtain ⟨_, q_326, h⟩ := h
                                                      have q_326 := p_ob_spec q_326
                                                      replace h := p_bind_elim h
                                                      obtain ⟨r_324, q_325, h⟩ := h
                                                      refine v_cVr (t_X10_seedsFor q_325) cal_X10_seedsFor ml_L_113 sel_X10_seedsFor q_326 kk_10 dL_law_766 (by omega) (by (try simp only [v_n]); omega) (by (try simp only [v_n]); omega) (Nat.le_of_ble_eq_true rfl) rfl ?_
                                                      refine v_icmp_eq 1196 dL_law_769 (by decide) (fun c_327 => ?_) (fun c_327 => ?_)
                                                      · rw [if_pos c_327] at h
                                                        replace h := p_let_elim h
                                                        obtain ⟨x_328, h_329, h⟩ := h
                                                        refine v_iincE (6 : Int32) dL_law_1196 (by decide) rfl (by decide) ?_
                                                        rw [← h_329]
                                                        refine v_sub [(0, .ref sb), (1, .ref (B + w1)), (2, .ref (B + w2)), (3, .int x_328)] ⟨rfl, rfl, rfl, rfl, trivial⟩ ?_
                                                        refine v_goto 18 dL_law_1199 (by decide) ?_
                                                        cases h
                                                        refine v_sub [(0, .ref sb), (1, .ref (B + w1)), (2, .ref (B + w2)), (3, .int x_328)] ⟨rfl, rfl, rfl, rfl, trivial⟩ ?_
                                                        have hk_ : n18 ≤ 513 → _ := hk
                                                        exact v_widen (by omega) (by omega) (hk_ (by omega))
                                                      · rw [if_neg c_327] at h
                                                        cases h
                                                    · rw [if_neg c_588] at h
                                                      by_cases c_589 : (x_12 &&& (63 : Int32)) = (24 : Int32)
                                                      · rw [if_pos c_589] at h
                                                        refine v_swIn 774 (24 : Int32) c_589 dL_law_33 (by decide) (by decide) rfl (by decide) ?_
                                                        refine v_aload_n dL_law_774 rfl ?_
                                                        refine v_aload_n dL_law_775 rfl ?_
                                                        refine v_iload_n dL_law_776 rfl ?_
                                                        refine v_iconstE (1 : Int32) dL_law_777 (by decide) ?_
                                                        refine v_iadd dL_law_778 ?_
                                                        replace h := p_bind_elim h
                                                        obtain ⟨x_330, q_331, h⟩ := h
                                                        refine v_sldS dL_law_779 q_331 ?_
                                                        replace h := p_bind_elim h
                                                        obtain ⟨_, q_334, h⟩ := h
                                                        have q_334 := p_ob_spec q_334
                                                        replace h := p_bind_elim h
                                                        obtain ⟨r_332, q_333, h⟩ := h
                                                        refine v_cVr (t_X9_spread q_333) cal_X9_spread ml_L_114 sel_X9_spread q_334 kk_9 dL_law_780 (by omega) (by (try simp only [v_n]); omega) (by (try simp only [v_n]); omega) (Nat.le_of_ble_eq_true rfl) rfl ?_
                                                        refine v_aload_n dL_law_783 rfl ?_
                                                        refine v_aload_n dL_law_784 rfl ?_
                                                        refine v_iload_n dL_law_785 rfl ?_
                                                        refine v_iconstE (1 : Int32) dL_law_786 (by decide) ?_
                                                        refine v_iadd dL_law_787 ?_
                                                        replace h := p_bind_elim h
                                                        obtain ⟨x_335, q_336, h⟩ := h
                                                        refine v_sldS dL_law_788 q_336 ?_
                                                        replace h := p_bind_elim h
                                                        obtain ⟨_, q_339, h⟩ := h
                                                        have q_339 := p_ob_spec q_339
                                                        replace h := p_bind_elim h
                                                        obtain ⟨r_337, q_338, h⟩ := h
                                                        refine v_cVr (t_X10_spread q_338) cal_X10_spread ml_L_117 sel_X10_spread q_339 kk_10 dL_law_789 (by omega) (by (try simp only [v_n]); omega) (by (try simp only [v_n]); omega) (Nat.le_of_ble_eq_true rfl) rfl ?_
                                                        refine v_icmp_eq 1196 dL_law_792 (by decide) (fun c_340 => ?_) (fun c_340 => ?_)
                                                        · rw [if_pos c_340] at h
                                                          replace h := p_let_elim h
                                                          obtain ⟨x_341, h_342, h⟩ := h
                                                          refine v_iincE (6 : Int32) dL_law_1196 (by decide) rfl (by decide) ?_
                                                          rw [← h_342]
                                                          refine v_sub [(0, .ref sb), (1, .ref (B + w1)), (2, .ref (B + w2)), (3, .int x_341)] ⟨rfl, rfl, rfl, rfl, trivial⟩ ?_
                                                          refine v_goto 18 dL_law_1199 (by decide) ?_
                                                          cases h
                                                          refine v_sub [(0, .ref sb), (1, .ref (B + w1)), (2, .ref (B + w2)), (3, .int x_341)] ⟨rfl, rfl, rfl, rfl, trivial⟩ ?_
                                                          have hk_ : n18 ≤ 513 → _ := hk
                                                          exact v_widen (by omega) (by omega) (hk_ (by omega))
                                                        · rw [if_neg c_340] at h
                                                          cases h
                                                      · rw [if_neg c_589] at h
                                                        by_cases c_590 : (x_12 &&& (63 : Int32)) = (25 : Int32)
                                                        · rw [if_pos c_590] at h
                                                          refine v_swIn 797 (25 : Int32) c_590 dL_law_33 (by decide) (by decide) rfl (by decide) ?_
                                                          refine v_aload_n dL_law_797 rfl ?_
                                                          refine v_aload_n dL_law_798 rfl ?_
                                                          refine v_iload_n dL_law_799 rfl ?_
                                                          refine v_iconstE (1 : Int32) dL_law_800 (by decide) ?_
                                                          refine v_iadd dL_law_801 ?_
                                                          replace h := p_bind_elim h
                                                          obtain ⟨x_343, q_344, h⟩ := h
                                                          refine v_sldS dL_law_802 q_344 ?_
                                                          refine v_aload_n dL_law_803 rfl ?_
                                                          refine v_iload_n dL_law_804 rfl ?_
                                                          refine v_iconstE (2 : Int32) dL_law_805 (by decide) ?_
                                                          refine v_iadd dL_law_806 ?_
                                                          replace h := p_bind_elim h
                                                          obtain ⟨x_345, q_346, h⟩ := h
                                                          refine v_sldS dL_law_807 q_346 ?_
                                                          replace h := p_bind_elim h
                                                          obtain ⟨_, q_349, h⟩ := h
                                                          have q_349 := p_ob_spec q_349
                                                          replace h := p_bind_elim h
                                                          obtain ⟨r_347, q_348, h⟩ := h
                                                          refine v_cVr (t_X9_held q_348) cal_X9_held ml_L_118 sel_X9_held q_349 kk_9 dL_law_808 (by omega) (by (try simp only [v_n]); omega) (by (try simp only [v_n]); omega) (Nat.le_of_ble_eq_true rfl) rfl ?_
                                                          refine v_aload_n dL_law_811 rfl ?_
                                                          refine v_aload_n dL_law_812 rfl ?_
                                                          refine v_iload_n dL_law_813 rfl ?_
                                                          refine v_iconstE (1 : Int32) dL_law_814 (by decide) ?_
                                                          refine v_iadd dL_law_815 ?_
                                                          replace h := p_bind_elim h
                                                          obtain ⟨x_350, q_351, h⟩ := h
                                                          refine v_sldS dL_law_816 q_351 ?_
                                                          refine v_aload_n dL_law_817 rfl ?_
                                                          refine v_iload_n dL_law_818 rfl ?_
                                                          refine v_iconstE (2 : Int32) dL_law_819 (by decide) ?_
                                                          refine v_iadd dL_law_820 ?_
                                                          replace h := p_bind_elim h
                                                          obtain ⟨x_352, q_353, h⟩ := h
                                                          refine v_sldS dL_law_821 q_353 ?_
                                                          replace h := p_bind_elim h
                                                          obtain ⟨_, q_356, h⟩ := h
                                                          have q_356 := p_ob_spec q_356
                                                          replace h := p_bind_elim h
                                                          obtain ⟨r_354, q_355, h⟩ := h
                                                          refine v_cVr (t_X10_held q_355) cal_X10_held ml_L_121 sel_X10_held q_356 kk_10 dL_law_822 (by omega) (by (try simp only [v_n]); omega) (by (try simp only [v_n]); omega) (Nat.le_of_ble_eq_true rfl) rfl ?_
                                                          refine v_icmp_eq 1196 dL_law_825 (by decide) (fun c_357 => ?_) (fun c_357 => ?_)
                                                          · rw [if_pos c_357] at h
                                                            replace h := p_let_elim h
                                                            obtain ⟨x_358, h_359, h⟩ := h
                                                            refine v_iincE (6 : Int32) dL_law_1196 (by decide) rfl (by decide) ?_
                                                            rw [← h_359]
                                                            refine v_sub [(0, .ref sb), (1, .ref (B + w1)), (2, .ref (B + w2)), (3, .int x_358)] ⟨rfl, rfl, rfl, rfl, trivial⟩ ?_
                                                            refine v_goto 18 dL_law_1199 (by decide) ?_
                                                            cases h
                                                            refine v_sub [(0, .ref sb), (1, .ref (B + w1)), (2, .ref (B + w2)), (3, .int x_358)] ⟨rfl, rfl, rfl, rfl, trivial⟩ ?_
                                                            have hk_ : n18 ≤ 513 → _ := hk
                                                            exact v_widen (by omega) (by omega) (hk_ (by omega))
                                                          · rw [if_neg c_357] at h
                                                            cases h
                                                        · rw [if_neg c_590] at h
                                                          by_cases c_591 : (x_12 &&& (63 : Int32)) = (26 : Int32)
                                                          · rw [if_pos c_591] at h
                                                            refine v_swIn 830 (26 : Int32) c_591 dL_law_33 (by decide) (by decide) rfl (by decide) ?_
                                                            refine v_aload_n dL_law_830 rfl ?_
                                                            refine v_aload_n dL_law_831 rfl ?_
                                                            refine v_iload_n dL_law_832 rfl ?_
                                                            refine v_iconstE (1 : Int32) dL_law_833 (by decide) ?_
                                                            refine v_iadd dL_law_834 ?_
                                                            replace h := p_bind_elim h
                                                            obtain ⟨x_360, q_361, h⟩ := h
                                                            refine v_sldS dL_law_835 q_361 ?_
                                                            refine v_aload_n dL_law_836 rfl ?_
                                                            refine v_iload_n dL_law_837 rfl ?_
                                                            refine v_iconstE (2 : Int32) dL_law_838 (by decide) ?_
                                                            refine v_iadd dL_law_839 ?_
                                                            replace h := p_bind_elim h
                                                            obtain ⟨x_362, q_363, h⟩ := h
                                                            refine v_sldS dL_law_840 q_363 ?_
                                                            refine v_aload_n dL_law_841 rfl ?_
                                                            refine v_iload_n dL_law_842 rfl ?_
                                                            refine v_iconstE (3 : Int32) dL_law_843 (by decide) ?_
                                                            refine v_iadd dL_law_844 ?_
                                                            replace h := p_bind_elim h
                                                            obtain ⟨x_364, q_365, h⟩ := h
                                                            refine v_sldS dL_law_845 q_365 ?_
                                                            replace h := p_bind_elim h
                                                            obtain ⟨_, q_368, h⟩ := h
                                                            have q_368 := p_ob_spec q_368
                                                            replace h := p_bind_elim h
                                                            obtain ⟨r_366, q_367, h⟩ := h
                                                            refine v_cVr (t_X9_chain q_367) cal_X9_chain ml_L_122 sel_X9_chain q_368 kk_9 dL_law_846 (by omega) (by (try simp only [v_n]); omega) (by (try simp only [v_n]); omega) (Nat.le_of_ble_eq_true rfl) rfl ?_
                                                            refine v_aload_n dL_law_849 rfl ?_
                                                            refine v_aload_n dL_law_850 rfl ?_
                                                            refine v_iload_n dL_law_851 rfl ?_
                                                            refine v_iconstE (1 : Int32) dL_law_852 (by decide) ?_
                                                            refine v_iadd dL_law_853 ?_
                                                            replace h := p_bind_elim h
                                                            obtain ⟨x_369, q_370, h⟩ := h
                                                            refine v_sldS dL_law_854 q_370 ?_
                                                            refine v_aload_n dL_law_855 rfl ?_
                                                            refine v_iload_n dL_law_856 rfl ?_
                                                            refine v_iconstE (2 : Int32) dL_law_857 (by decide) ?_
                                                            refine v_iadd dL_law_858 ?_
                                                            replace h := p_bind_elim h
                                                            obtain ⟨x_371, q_372, h⟩ := h
                                                            refine v_sldS dL_law_859 q_372 ?_
                                                            refine v_aload_n dL_law_860 rfl ?_
                                                            refine v_iload_n dL_law_861 rfl ?_
                                                            refine v_iconstE (3 : Int32) dL_law_862 (by decide) ?_
                                                            refine v_iadd dL_law_863 ?_
                                                            replace h := p_bind_elim h
                                                            obtain ⟨x_373, q_374, h⟩ := h
                                                            refine v_sldS dL_law_864 q_374 ?_
                                                            replace h := p_bind_elim h
                                                            obtain ⟨_, q_377, h⟩ := h
                                                            have q_377 := p_ob_spec q_377
                                                            replace h := p_bind_elim h
                                                            obtain ⟨r_375, q_376, h⟩ := h
                                                            refine v_cVr (t_X10_chain q_376) cal_X10_chain ml_L_125 sel_X10_chain q_377 kk_10 dL_law_865 (by omega) (by (try simp only [v_n]); omega) (by (try simp only [v_n]); omega) (Nat.le_of_ble_eq_true rfl) rfl ?_
                                                            refine v_icmp_eq 1196 dL_law_868 (by decide) (fun c_378 => ?_) (fun c_378 => ?_)
                                                            · rw [if_pos c_378] at h
                                                              replace h := p_let_elim h
                                                              obtain ⟨x_379, h_380, h⟩ := h
                                                              refine v_iincE (6 : Int32) dL_law_1196 (by decide) rfl (by decide) ?_
                                                              rw [← h_380]
                                                              refine v_sub [(0, .ref sb), (1, .ref (B + w1)), (2, .ref (B + w2)), (3, .int x_379)] ⟨rfl, rfl, rfl, rfl, trivial⟩ ?_
                                                              refine v_goto 18 dL_law_1199 (by decide) ?_
                                                              cases h
                                                              refine v_sub [(0, .ref sb), (1, .ref (B + w1)), (2, .ref (B + w2)), (3, .int x_379)] ⟨rfl, rfl, rfl, rfl, trivial⟩ ?_
                                                              have hk_ : n18 ≤ 513 → _ := hk
                                                              exact v_widen (by omega) (by omega) (hk_ (by omega))
                                                            · rw [if_neg c_378] at h
                                                              cases h
                                                          · rw [if_neg c_591] at h
                                                            by_cases c_592 : (x_12 &&& (63 : Int32)) = (27 : Int32)
                                                            · rw [if_pos c_592] at h
                                                              refine v_swIn 873 (27 : Int32) c_592 dL_law_33 (by decide) (by decide) rfl (by decide) ?_
                                                              refine v_aload_n dL_law_873 rfl ?_
                                                              replace h := p_bind_elim h
                                                              obtain ⟨_, q_383, h⟩ := h
                                                              have q_383 := p_ob_spec q_383
                                                              replace h := p_bind_elim h
                                                              obtain ⟨r_381, q_382, h⟩ := h
                                                              refine v_cVr (t_X9_knots q_382) cal_X9_knots ml_L_126 sel_X9_knots q_383 kk_9 dL_law_874 (by omega) (by (try simp only [v_n]); omega) (by (try simp only [v_n]); omega) (Nat.le_of_ble_eq_true rfl) rfl ?_
                                                              refine v_aload_n dL_law_877 rfl ?_
                                                              replace h := p_bind_elim h
                                                              obtain ⟨_, q_386, h⟩ := h
                                                              have q_386 := p_ob_spec q_386
                                                              replace h := p_bind_elim h
                                                              obtain ⟨r_384, q_385, h⟩ := h
                                                              refine v_cVr (t_X10_knots q_385) cal_X10_knots ml_L_129 sel_X10_knots q_386 kk_10 dL_law_878 (by omega) (by (try simp only [v_n]); omega) (by (try simp only [v_n]); omega) (Nat.le_of_ble_eq_true rfl) rfl ?_
                                                              refine v_icmp_eq 1196 dL_law_881 (by decide) (fun c_387 => ?_) (fun c_387 => ?_)
                                                              · rw [if_pos c_387] at h
                                                                replace h := p_let_elim h
                                                                obtain ⟨x_388, h_389, h⟩ := h
                                                                refine v_iincE (6 : Int32) dL_law_1196 (by decide) rfl (by decide) ?_
                                                                rw [← h_389]
                                                                refine v_sub [(0, .ref sb), (1, .ref (B + w1)), (2, .ref (B + w2)), (3, .int x_388)] ⟨rfl, rfl, rfl, rfl, trivial⟩ ?_
                                                                refine v_goto 18 dL_law_1199 (by decide) ?_
                                                                cases h
                                                                refine v_sub [(0, .ref sb), (1, .ref (B + w1)), (2, .ref (B + w2)), (3, .int x_388)] ⟨rfl, rfl, rfl, rfl, trivial⟩ ?_
                                                                have hk_ : n18 ≤ 513 → _ := hk
                                                                exact v_widen (by omega) (by omega) (hk_ (by omega))
                                                              · rw [if_neg c_387] at h
                                                                cases h
                                                            · rw [if_neg c_592] at h
                                                              by_cases c_593 : (x_12 &&& (63 : Int32)) = (28 : Int32)
                                                              · rw [if_pos c_593] at h
                                                                refine v_swIn 886 (28 : Int32) c_593 dL_law_33 (by decide) (by decide) rfl (by decide) ?_
                                                                refine v_aload_n dL_law_886 rfl ?_
                                                                refine v_aload_n dL_law_887 rfl ?_
                                                                refine v_iload_n dL_law_888 rfl ?_
                                                                refine v_iconstE (1 : Int32) dL_law_889 (by decide) ?_
                                                                refine v_iadd dL_law_890 ?_
                                                                replace h := p_bind_elim h
                                                                obtain ⟨x_390, q_391, h⟩ := h
                                                                refine v_sldS dL_law_891 q_391 ?_
                                                                replace h := p_bind_elim h
                                                                obtain ⟨_, q_394, h⟩ := h
                                                                have q_394 := p_ob_spec q_394
                                                                replace h := p_bind_elim h
                                                                obtain ⟨r_392, q_393, h⟩ := h
                                                                refine v_cVr (t_X9_heads q_393) cal_X9_heads ml_L_130 sel_X9_heads q_394 kk_9 dL_law_892 (by omega) (by (try simp only [v_n]); omega) (by (try simp only [v_n]); omega) (Nat.le_of_ble_eq_true rfl) rfl ?_
                                                                refine v_aload_n dL_law_895 rfl ?_
                                                                refine v_aload_n dL_law_896 rfl ?_
                                                                refine v_iload_n dL_law_897 rfl ?_
                                                                refine v_iconstE (1 : Int32) dL_law_898 (by decide) ?_
                                                                refine v_iadd dL_law_899 ?_
                                                                replace h := p_bind_elim h
                                                                obtain ⟨x_395, q_396, h⟩ := h
                                                                refine v_sldS dL_law_900 q_396 ?_
                                                                replace h := p_bind_elim h
                                                                obtain ⟨_, q_399, h⟩ := h
                                                                have q_399 := p_ob_spec q_399
                                                                replace h := p_bind_elim h
                                                                obtain ⟨r_397, q_398, h⟩ := h
                                                                refine v_cVr (t_X10_heads q_398) cal_X10_heads ml_L_133 sel_X10_heads q_399 kk_10 dL_law_901 (by omega) (by (try simp only [v_n]); omega) (by (try simp only [v_n]); omega) (Nat.le_of_ble_eq_true rfl) rfl ?_
                                                                refine v_icmp_eq 1196 dL_law_904 (by decide) (fun c_400 => ?_) (fun c_400 => ?_)
                                                                · rw [if_pos c_400] at h
                                                                  replace h := p_let_elim h
                                                                  obtain ⟨x_401, h_402, h⟩ := h
                                                                  refine v_iincE (6 : Int32) dL_law_1196 (by decide) rfl (by decide) ?_
                                                                  rw [← h_402]
                                                                  refine v_sub [(0, .ref sb), (1, .ref (B + w1)), (2, .ref (B + w2)), (3, .int x_401)] ⟨rfl, rfl, rfl, rfl, trivial⟩ ?_
                                                                  refine v_goto 18 dL_law_1199 (by decide) ?_
                                                                  cases h
                                                                  refine v_sub [(0, .ref sb), (1, .ref (B + w1)), (2, .ref (B + w2)), (3, .int x_401)] ⟨rfl, rfl, rfl, rfl, trivial⟩ ?_
                                                                  have hk_ : n18 ≤ 513 → _ := hk
                                                                  exact v_widen (by omega) (by omega) (hk_ (by omega))
                                                                · rw [if_neg c_400] at h
                                                                  cases h
                                                              · rw [if_neg c_593] at h
                                                                by_cases c_594 : (x_12 &&& (63 : Int32)) = (29 : Int32)
                                                                · rw [if_pos c_594] at h
                                                                  refine v_swIn 909 (29 : Int32) c_594 dL_law_33 (by decide) (by decide) rfl (by decide) ?_
                                                                  refine v_aload_n dL_law_909 rfl ?_
                                                                  refine v_aload_n dL_law_910 rfl ?_
                                                                  refine v_iload_n dL_law_911 rfl ?_
                                                                  refine v_iconstE (1 : Int32) dL_law_912 (by decide) ?_
                                                                  refine v_iadd dL_law_913 ?_
                                                                  replace h := p_bind_elim h
                                                                  obtain ⟨x_403, q_404, h⟩ := h
                                                                  refine v_sldS dL_law_914 q_404 ?_
                                                                  refine v_aload_n dL_law_915 rfl ?_
                                                                  refine v_iload_n dL_law_916 rfl ?_
                                                                  refine v_iconstE (2 : Int32) dL_law_917 (by decide) ?_
                                                                  refine v_iadd dL_law_918 ?_
                                                                  replace h := p_bind_elim h
                                                                  obtain ⟨x_405, q_406, h⟩ := h
                                                                  refine v_sldS dL_law_919 q_406 ?_
                                                                  replace h := p_bind_elim h
                                                                  obtain ⟨_, q_409, h⟩ := h
                                                                  have q_409 := p_ob_spec q_409
                                                                  replace h := p_bind_elim h
                                                                  obtain ⟨r_407, q_408, h⟩ := h
                                                                  refine v_cVr (t_X9_seen q_408) cal_X9_seen ml_L_134 sel_X9_seen q_409 kk_9 dL_law_920 (by omega) (by (try simp only [v_n]); omega) (by (try simp only [v_n]); omega) (Nat.le_of_ble_eq_true rfl) rfl ?_
                                                                  refine v_aload_n dL_law_923 rfl ?_
                                                                  refine v_aload_n dL_law_924 rfl ?_
                                                                  refine v_iload_n dL_law_925 rfl ?_
                                                                  refine v_iconstE (1 : Int32) dL_law_926 (by decide) ?_
                                                                  refine v_iadd dL_law_927 ?_
                                                                  replace h := p_bind_elim h
                                                                  obtain ⟨x_410, q_411, h⟩ := h
                                                                  refine v_sldS dL_law_928 q_411 ?_
                                                                  refine v_aload_n dL_law_929 rfl ?_
                                                                  refine v_iload_n dL_law_930 rfl ?_
                                                                  refine v_iconstE (2 : Int32) dL_law_931 (by decide) ?_
                                                                  refine v_iadd dL_law_932 ?_
                                                                  replace h := p_bind_elim h
                                                                  obtain ⟨x_412, q_413, h⟩ := h
                                                                  refine v_sldS dL_law_933 q_413 ?_
                                                                  replace h := p_bind_elim h
                                                                  obtain ⟨_, q_416, h⟩ := h
                                                                  have q_416 := p_ob_spec q_416
                                                                  replace h := p_bind_elim h
                                                                  obtain ⟨r_414, q_415, h⟩ := h
                                                                  refine v_cVr (t_X10_seen q_415) cal_X10_seen ml_L_137 sel_X10_seen q_416 kk_10 dL_law_934 (by omega) (by (try simp only [v_n]); omega) (by (try simp only [v_n]); omega) (Nat.le_of_ble_eq_true rfl) rfl ?_
                                                                  refine v_icmp_eq 1196 dL_law_937 (by decide) (fun c_417 => ?_) (fun c_417 => ?_)
                                                                  · rw [if_pos c_417] at h
                                                                    replace h := p_let_elim h
                                                                    obtain ⟨x_418, h_419, h⟩ := h
                                                                    refine v_iincE (6 : Int32) dL_law_1196 (by decide) rfl (by decide) ?_
                                                                    rw [← h_419]
                                                                    refine v_sub [(0, .ref sb), (1, .ref (B + w1)), (2, .ref (B + w2)), (3, .int x_418)] ⟨rfl, rfl, rfl, rfl, trivial⟩ ?_
                                                                    refine v_goto 18 dL_law_1199 (by decide) ?_
                                                                    cases h
                                                                    refine v_sub [(0, .ref sb), (1, .ref (B + w1)), (2, .ref (B + w2)), (3, .int x_418)] ⟨rfl, rfl, rfl, rfl, trivial⟩ ?_
                                                                    have hk_ : n18 ≤ 513 → _ := hk
                                                                    exact v_widen (by omega) (by omega) (hk_ (by omega))
                                                                  · rw [if_neg c_417] at h
                                                                    cases h
                                                                · rw [if_neg c_594] at h
                                                                  by_cases c_595 : (x_12 &&& (63 : Int32)) = (30 : Int32)
                                                                  · rw [if_pos c_595] at h
                                                                    refine v_swIn 942 (30 : Int32) c_595 dL_law_33 (by decide) (by decide) rfl (by decide) ?_
                                                                    refine v_aload_n dL_law_942 rfl ?_
                                                                    replace h := p_bind_elim h
                                                                    obtain ⟨_, q_422, h⟩ := h
                                                                    have q_422 := p_ob_spec q_422
                                                                    replace h := p_bind_elim h
                                                                    obtain ⟨r_420, q_421, h⟩ := h
                                                                    refine v_cVr (t_X9_forget q_421) cal_X9_forget ml_L_138 sel_X9_forget q_422 kk_9 dL_law_943 (by omega) (by (try simp only [v_n]); omega) (by (try simp only [v_n]); omega) (Nat.le_of_ble_eq_true rfl) rfl ?_
                                                                    refine v_aload_n dL_law_946 rfl ?_
                                                                    replace h := p_bind_elim h
                                                                    obtain ⟨_, q_425, h⟩ := h
                                                                    have q_425 := p_ob_spec q_425
                                                                    replace h := p_bind_elim h
                                                                    obtain ⟨r_423, q_424, h⟩ := h
                                                                    refine v_cVr (t_X10_forget q_424) cal_X10_forget ml_L_141 sel_X10_forget q_425 kk_10 dL_law_947 (by omega) (by (try simp only [v_n]); omega) (by (try simp only [v_n]); omega) (Nat.le_of_ble_eq_true rfl) rfl ?_
                                                                    refine v_icmp_eq 1196 dL_law_950 (by decide) (fun c_426 => ?_) (fun c_426 => ?_)
                                                                    · rw [if_pos c_426] at h
                                                                      replace h := p_let_elim h
                                                                      obtain ⟨x_427, h_428, h⟩ := h
                                                                      refine v_iincE (6 : Int32) dL_law_1196 (by decide) rfl (by decide) ?_
                                                                      rw [← h_428]
                                                                      refine v_sub [(0, .ref sb), (1, .ref (B + w1)), (2, .ref (B + w2)), (3, .int x_427)] ⟨rfl, rfl, rfl, rfl, trivial⟩ ?_
                                                                      refine v_goto 18 dL_law_1199 (by decide) ?_
                                                                      cases h
                                                                      refine v_sub [(0, .ref sb), (1, .ref (B + w1)), (2, .ref (B + w2)), (3, .int x_427)] ⟨rfl, rfl, rfl, rfl, trivial⟩ ?_
                                                                      have hk_ : n18 ≤ 513 → _ := hk
                                                                      exact v_widen (by omega) (by omega) (hk_ (by omega))
                                                                    · rw [if_neg c_426] at h
                                                                      cases h
                                                                  · rw [if_neg c_595] at h
                                                                    by_cases c_596 : (x_12 &&& (63 : Int32)) = (31 : Int32)
                                                                    · rw [if_pos c_596] at h
                                                                      refine v_swIn 955 (31 : Int32) c_596 dL_law_33 (by decide) (by decide) rfl (by decide) ?_
                                                                      refine v_aload_n dL_law_955 rfl ?_
                                                                      replace h := p_bind_elim h
                                                                      obtain ⟨_, q_431, h⟩ := h
                                                                      have q_431 := p_ob_spec q_431
                                                                      replace h := p_bind_elim h
                                                                      obtain ⟨r_429, q_430, h⟩ := h
                                                                      refine v_cVr (t_X9_canBe q_430) cal_X9_canBe ml_L_142 sel_X9_canBe q_431 kk_9 dL_law_956 (by omega) (by (try simp only [v_n]); omega) (by (try simp only [v_n]); omega) (Nat.le_of_ble_eq_true rfl) rfl ?_
                                                                      refine v_aload_n dL_law_959 rfl ?_
                                                                      replace h := p_bind_elim h
                                                                      obtain ⟨_, q_434, h⟩ := h
                                                                      have q_434 := p_ob_spec q_434
                                                                      replace h := p_bind_elim h
                                                                      obtain ⟨r_432, q_433, h⟩ := h
                                                                      refine v_cVr (t_X10_canBe q_433) cal_X10_canBe ml_L_145 sel_X10_canBe q_434 kk_10 dL_law_960 (by omega) (by (try simp only [v_n]); omega) (by (try simp only [v_n]); omega) (Nat.le_of_ble_eq_true rfl) rfl ?_
                                                                      refine v_icmp_eq 1196 dL_law_963 (by decide) (fun c_435 => ?_) (fun c_435 => ?_)
                                                                      · rw [if_pos c_435] at h
                                                                        replace h := p_let_elim h
                                                                        obtain ⟨x_436, h_437, h⟩ := h
                                                                        refine v_iincE (6 : Int32) dL_law_1196 (by decide) rfl (by decide) ?_
                                                                        rw [← h_437]
                                                                        refine v_sub [(0, .ref sb), (1, .ref (B + w1)), (2, .ref (B + w2)), (3, .int x_436)] ⟨rfl, rfl, rfl, rfl, trivial⟩ ?_
                                                                        refine v_goto 18 dL_law_1199 (by decide) ?_
                                                                        cases h
                                                                        refine v_sub [(0, .ref sb), (1, .ref (B + w1)), (2, .ref (B + w2)), (3, .int x_436)] ⟨rfl, rfl, rfl, rfl, trivial⟩ ?_
                                                                        have hk_ : n18 ≤ 513 → _ := hk
                                                                        exact v_widen (by omega) (by omega) (hk_ (by omega))
                                                                      · rw [if_neg c_435] at h
                                                                        cases h
                                                                    · rw [if_neg c_596] at h
                                                                      by_cases c_597 : (x_12 &&& (63 : Int32)) = (32 : Int32)
                                                                      · rw [if_pos c_597] at h
                                                                        refine v_swIn 968 (32 : Int32) c_597 dL_law_33 (by decide) (by decide) rfl (by decide) ?_
                                                                        refine v_aload_n dL_law_968 rfl ?_
                                                                        refine v_aload_n dL_law_969 rfl ?_
                                                                        refine v_iload_n dL_law_970 rfl ?_
                                                                        refine v_iconstE (1 : Int32) dL_law_971 (by decide) ?_
                                                                        refine v_iadd dL_law_972 ?_
                                                                        replace h := p_bind_elim h
                                                                        obtain ⟨x_438, q_439, h⟩ := h
                                                                        refine v_sldS dL_law_973 q_439 ?_
                                                                        replace h := p_bind_elim h
                                                                        obtain ⟨_, q_442, h⟩ := h
                                                                        have q_442 := p_ob_spec q_442
                                                                        replace h := p_bind_elim h
                                                                        obtain ⟨r_440, q_441, h⟩ := h
                                                                        refine v_cVr (t_X9_look q_441) cal_X9_look ml_L_146 sel_X9_look q_442 kk_9 dL_law_974 (by omega) (by (try simp only [v_n]); omega) (by (try simp only [v_n]); omega) (Nat.le_of_ble_eq_true rfl) rfl ?_
                                                                        refine v_aload_n dL_law_977 rfl ?_
                                                                        refine v_aload_n dL_law_978 rfl ?_
                                                                        refine v_iload_n dL_law_979 rfl ?_
                                                                        refine v_iconstE (1 : Int32) dL_law_980 (by decide) ?_
                                                                        refine v_iadd dL_law_981 ?_
                                                                        replace h := p_bind_elim h
                                                                        obtain ⟨x_443, q_444, h⟩ := h
                                                                        refine v_sldS dL_law_982 q_444 ?_
                                                                        replace h := p_bind_elim h
                                                                        obtain ⟨_, q_447, h⟩ := h
                                                                        have q_447 := p_ob_spec q_447
                                                                        replace h := p_bind_elim h
                                                                        obtain ⟨r_445, q_446, h⟩ := h
                                                                        refine v_cVr (t_X10_look q_446) cal_X10_look ml_L_149 sel_X10_look q_447 kk_10 dL_law_983 (by omega) (by (try simp only [v_n]); omega) (by (try simp only [v_n]); omega) (Nat.le_of_ble_eq_true rfl) rfl ?_
                                                                        refine v_icmp_eq 1196 dL_law_986 (by decide) (fun c_448 => ?_) (fun c_448 => ?_)
                                                                        · rw [if_pos c_448] at h
                                                                          replace h := p_let_elim h
                                                                          obtain ⟨x_449, h_450, h⟩ := h
                                                                          refine v_iincE (6 : Int32) dL_law_1196 (by decide) rfl (by decide) ?_
                                                                          rw [← h_450]
                                                                          refine v_sub [(0, .ref sb), (1, .ref (B + w1)), (2, .ref (B + w2)), (3, .int x_449)] ⟨rfl, rfl, rfl, rfl, trivial⟩ ?_
                                                                          refine v_goto 18 dL_law_1199 (by decide) ?_
                                                                          cases h
                                                                          refine v_sub [(0, .ref sb), (1, .ref (B + w1)), (2, .ref (B + w2)), (3, .int x_449)] ⟨rfl, rfl, rfl, rfl, trivial⟩ ?_
                                                                          have hk_ : n18 ≤ 513 → _ := hk
                                                                          exact v_widen (by omega) (by omega) (hk_ (by omega))
                                                                        · rw [if_neg c_448] at h
                                                                          cases h
                                                                      · rw [if_neg c_597] at h
                                                                        by_cases c_598 : (x_12 &&& (63 : Int32)) = (33 : Int32)
                                                                        · rw [if_pos c_598] at h
                                                                          refine v_swIn 991 (33 : Int32) c_598 dL_law_33 (by decide) (by decide) rfl (by decide) ?_
                                                                          refine v_aload_n dL_law_991 rfl ?_
                                                                          refine v_aload_n dL_law_992 rfl ?_
                                                                          refine v_iload_n dL_law_993 rfl ?_
                                                                          refine v_iconstE (1 : Int32) dL_law_994 (by decide) ?_
                                                                          refine v_iadd dL_law_995 ?_
                                                                          replace h := p_bind_elim h
                                                                          obtain ⟨x_451, q_452, h⟩ := h
                                                                          refine v_sldS dL_law_996 q_452 ?_
                                                                          refine v_aload_n dL_law_997 rfl ?_
                                                                          refine v_iload_n dL_law_998 rfl ?_
                                                                          refine v_iconstE (2 : Int32) dL_law_999 (by decide) ?_
                                                                          refine v_iadd dL_law_1000 ?_
                                                                          replace h := p_bind_elim h
                                                                          obtain ⟨x_453, q_454, h⟩ := h
                                                                          refine v_sldS dL_law_1001 q_454 ?_
                                                                          replace h := p_bind_elim h
                                                                          obtain ⟨_, q_457, h⟩ := h
                                                                          have q_457 := p_ob_spec q_457
                                                                          replace h := p_bind_elim h
                                                                          obtain ⟨r_455, q_456, h⟩ := h
                                                                          refine v_cVr (t_X9_few q_456) cal_X9_few ml_L_150 sel_X9_few q_457 kk_9 dL_law_1002 (by omega) (by (try simp only [v_n]); omega) (by (try simp only [v_n]); omega) (Nat.le_of_ble_eq_true rfl) rfl ?_
                                                                          refine v_aload_n dL_law_1005 rfl ?_
                                                                          refine v_aload_n dL_law_1006 rfl ?_
                                                                          refine v_iload_n dL_law_1007 rfl ?_
                                                                          refine v_iconstE (1 : Int32) dL_law_1008 (by decide) ?_
                                                                          refine v_iadd dL_law_1009 ?_
                                                                          replace h := p_bind_elim h
                                                                          obtain ⟨x_458, q_459, h⟩ := h
                                                                          refine v_sldS dL_law_1010 q_459 ?_
                                                                          refine v_aload_n dL_law_1011 rfl ?_
                                                                          refine v_iload_n dL_law_1012 rfl ?_
                                                                          refine v_iconstE (2 : Int32) dL_law_1013 (by decide) ?_
                                                                          refine v_iadd dL_law_1014 ?_
                                                                          replace h := p_bind_elim h
                                                                          obtain ⟨x_460, q_461, h⟩ := h
                                                                          refine v_sldS dL_law_1015 q_461 ?_
                                                                          replace h := p_bind_elim h
                                                                          obtain ⟨_, q_464, h⟩ := h
                                                                          have q_464 := p_ob_spec q_464
                                                                          replace h := p_bind_elim h
                                                                          obtain ⟨r_462, q_463, h⟩ := h
                                                                          refine v_cVr (t_X10_few q_463) cal_X10_few ml_L_154 sel_X10_few q_464 kk_10 dL_law_1016 (by omega) (by (try simp only [v_n]); omega) (by (try simp only [v_n]); omega) (Nat.le_of_ble_eq_true rfl) rfl ?_
                                                                          refine v_lcmp dL_law_1019 ?_
                                                                          refine v_if_eq 1196 dL_law_1020 (by decide) (fun c_465 => ?_) (fun c_465 => ?_)
                                                                          · rw [if_pos c_465] at h
                                                                            replace h := p_let_elim h
                                                                            obtain ⟨x_466, h_467, h⟩ := h
                                                                            refine v_iincE (6 : Int32) dL_law_1196 (by decide) rfl (by decide) ?_
                                                                            rw [← h_467]
                                                                            refine v_sub [(0, .ref sb), (1, .ref (B + w1)), (2, .ref (B + w2)), (3, .int x_466)] ⟨rfl, rfl, rfl, rfl, trivial⟩ ?_
                                                                            refine v_goto 18 dL_law_1199 (by decide) ?_
                                                                            cases h
                                                                            refine v_sub [(0, .ref sb), (1, .ref (B + w1)), (2, .ref (B + w2)), (3, .int x_466)] ⟨rfl, rfl, rfl, rfl, trivial⟩ ?_
                                                                            have hk_ : n18 ≤ 513 → _ := hk
                                                                            exact v_widen (by omega) (by omega) (hk_ (by omega))
                                                                          · rw [if_neg c_465] at h
                                                                            cases h
                                                                        · rw [if_neg c_598] at h
                                                                          by_cases c_599 : (x_12 &&& (63 : Int32)) = (34 : Int32)
                                                                          · rw [if_pos c_599] at h
                                                                            refine v_swIn 1025 (34 : Int32) c_599 dL_law_33 (by decide) (by decide) rfl (by decide) ?_
                                                                            refine v_aload_n dL_law_1025 rfl ?_
                                                                            refine v_aload_n dL_law_1026 rfl ?_
                                                                            refine v_iload_n dL_law_1027 rfl ?_
                                                                            refine v_iconstE (1 : Int32) dL_law_1028 (by decide) ?_
                                                                            refine v_iadd dL_law_1029 ?_
                                                                            replace h := p_bind_elim h
                                                                            obtain ⟨x_468, q_469, h⟩ := h
                                                                            refine v_sldS dL_law_1030 q_469 ?_
                                                                            replace h := p_bind_elim h
                                                                            obtain ⟨_, q_472, h⟩ := h
                                                                            have q_472 := p_ob_spec q_472
                                                                            replace h := p_bind_elim h
                                                                            obtain ⟨r_470, q_471, h⟩ := h
                                                                            refine v_cVr (t_X9_compare q_471) cal_X9_compare ml_L_155 sel_X9_compare q_472 kk_9 dL_law_1031 (by omega) (by (try simp only [v_n]); omega) (by (try simp only [v_n]); omega) (Nat.le_of_ble_eq_true rfl) rfl ?_
                                                                            refine v_aload_n dL_law_1034 rfl ?_
                                                                            refine v_aload_n dL_law_1035 rfl ?_
                                                                            refine v_iload_n dL_law_1036 rfl ?_
                                                                            refine v_iconstE (1 : Int32) dL_law_1037 (by decide) ?_
                                                                            refine v_iadd dL_law_1038 ?_
                                                                            replace h := p_bind_elim h
                                                                            obtain ⟨x_473, q_474, h⟩ := h
                                                                            refine v_sldS dL_law_1039 q_474 ?_
                                                                            replace h := p_bind_elim h
                                                                            obtain ⟨_, q_477, h⟩ := h
                                                                            have q_477 := p_ob_spec q_477
                                                                            replace h := p_bind_elim h
                                                                            obtain ⟨r_475, q_476, h⟩ := h
                                                                            refine v_cVr (t_X10_compare q_476) cal_X10_compare ml_L_158 sel_X10_compare q_477 kk_10 dL_law_1040 (by omega) (by (try simp only [v_n]); omega) (by (try simp only [v_n]); omega) (Nat.le_of_ble_eq_true rfl) rfl ?_
                                                                            refine v_icmp_eq 1196 dL_law_1043 (by decide) (fun c_478 => ?_) (fun c_478 => ?_)
                                                                            · rw [if_pos c_478] at h
                                                                              replace h := p_let_elim h
                                                                              obtain ⟨x_479, h_480, h⟩ := h
                                                                              refine v_iincE (6 : Int32) dL_law_1196 (by decide) rfl (by decide) ?_
                                                                              rw [← h_480]
                                                                              refine v_sub [(0, .ref sb), (1, .ref (B + w1)), (2, .ref (B + w2)), (3, .int x_479)] ⟨rfl, rfl, rfl, rfl, trivial⟩ ?_
                                                                              refine v_goto 18 dL_law_1199 (by decide) ?_
                                                                              cases h
                                                                              refine v_sub [(0, .ref sb), (1, .ref (B + w1)), (2, .ref (B + w2)), (3, .int x_479)] ⟨rfl, rfl, rfl, rfl, trivial⟩ ?_
                                                                              have hk_ : n18 ≤ 513 → _ := hk
                                                                              exact v_widen (by omega) (by omega) (hk_ (by omega))
                                                                            · rw [if_neg c_478] at h
                                                                              cases h
                                                                          · rw [if_neg c_599] at h
                                                                            by_cases c_600 : (x_12 &&& (63 : Int32)) = (35 : Int32)
                                                                            · rw [if_pos c_600] at h
                                                                              refine v_swIn 1048 (35 : Int32) c_600 dL_law_33 (by decide) (by decide) rfl (by decide) ?_
                                                                              refine v_aload_n dL_law_1048 rfl ?_
                                                                              refine v_aload_n dL_law_1049 rfl ?_
                                                                              refine v_iload_n dL_law_1050 rfl ?_
                                                                              refine v_iconstE (1 : Int32) dL_law_1051 (by decide) ?_
                                                                              refine v_iadd dL_law_1052 ?_
                                                                              replace h := p_bind_elim h
                                                                              obtain ⟨x_481, q_482, h⟩ := h
                                                                              refine v_sldS dL_law_1053 q_482 ?_
                                                                              refine v_aload_n dL_law_1054 rfl ?_
                                                                              refine v_iload_n dL_law_1055 rfl ?_
                                                                              refine v_iconstE (2 : Int32) dL_law_1056 (by decide) ?_
                                                                              refine v_iadd dL_law_1057 ?_
                                                                              replace h := p_bind_elim h
                                                                              obtain ⟨x_483, q_484, h⟩ := h
                                                                              refine v_sldS dL_law_1058 q_484 ?_
                                                                              replace h := p_bind_elim h
                                                                              obtain ⟨_, q_487, h⟩ := h
                                                                              have q_487 := p_ob_spec q_487
                                                                              replace h := p_bind_elim h
                                                                              obtain ⟨r_485, q_486, h⟩ := h
                                                                              refine v_cVr (t_X9_councils q_486) cal_X9_councils ml_L_159 sel_X9_councils q_487 kk_9 dL_law_1059 (by omega) (by (try simp only [v_n]); omega) (by (try simp only [v_n]); omega) (Nat.le_of_ble_eq_true rfl) rfl ?_
                                                                              refine v_aload_n dL_law_1062 rfl ?_
                                                                              refine v_aload_n dL_law_1063 rfl ?_
                                                                              refine v_iload_n dL_law_1064 rfl ?_
                                                                              refine v_iconstE (1 : Int32) dL_law_1065 (by decide) ?_
                                                                              refine v_iadd dL_law_1066 ?_
                                                                              replace h := p_bind_elim h
                                                                              obtain ⟨x_488, q_489, h⟩ := h
                                                                              refine v_sldS dL_law_1067 q_489 ?_
                                                                              refine v_aload_n dL_law_1068 rfl ?_
                                                                              refine v_iload_n dL_law_1069 rfl ?_
                                                                              refine v_iconstE (2 : Int32) dL_law_1070 (by decide) ?_
                                                                              refine v_iadd dL_law_1071 ?_
                                                                              replace h := p_bind_elim h
                                                                              obtain ⟨x_490, q_491, h⟩ := h
                                                                              refine v_sldS dL_law_1072 q_491 ?_
                                                                              replace h := p_bind_elim h
                                                                              obtain ⟨_, q_494, h⟩ := h
                                                                              have q_494 := p_ob_spec q_494
                                                                              replace h := p_bind_elim h
                                                                              obtain ⟨r_492, q_493, h⟩ := h
                                                                              refine v_cVr (t_X10_councils q_493) cal_X10_councils ml_L_162 sel_X10_councils q_494 kk_10 dL_law_1073 (by omega) (by (try simp only [v_n]); omega) (by (try simp only [v_n]); omega) (Nat.le_of_ble_eq_true rfl) rfl ?_
                                                                              refine v_icmp_eq 1196 dL_law_1076 (by decide) (fun c_495 => ?_) (fun c_495 => ?_)
                                                                              · rw [if_pos c_495] at h
                                                                                replace h := p_let_elim h
                                                                                obtain ⟨x_496, h_497, h⟩ := h
                                                                                refine v_iincE (6 : Int32) dL_law_1196 (by decide) rfl (by decide) ?_
                                                                                rw [← h_497]
                                                                                refine v_sub [(0, .ref sb), (1, .ref (B + w1)), (2, .ref (B + w2)), (3, .int x_496)] ⟨rfl, rfl, rfl, rfl, trivial⟩ ?_
                                                                                refine v_goto 18 dL_law_1199 (by decide) ?_
                                                                                cases h
                                                                                refine v_sub [(0, .ref sb), (1, .ref (B + w1)), (2, .ref (B + w2)), (3, .int x_496)] ⟨rfl, rfl, rfl, rfl, trivial⟩ ?_
                                                                                have hk_ : n18 ≤ 513 → _ := hk
                                                                                exact v_widen (by omega) (by omega) (hk_ (by omega))
                                                                              · rw [if_neg c_495] at h
                                                                                cases h
                                                                            · rw [if_neg c_600] at h
                                                                              by_cases c_601 : (x_12 &&& (63 : Int32)) = (36 : Int32)
                                                                              · rw [if_pos c_601] at h
                                                                                refine v_swIn 1081 (36 : Int32) c_601 dL_law_33 (by decide) (by decide) rfl (by decide) ?_
                                                                                refine v_aload_n dL_law_1081 rfl ?_
                                                                                refine v_aload_n dL_law_1082 rfl ?_
                                                                                refine v_iload_n dL_law_1083 rfl ?_
                                                                                refine v_iconstE (1 : Int32) dL_law_1084 (by decide) ?_
                                                                                refine v_iadd dL_law_1085 ?_
                                                                                replace h := p_bind_elim h
                                                                                obtain ⟨x_498, q_499, h⟩ := h
                                                                                refine v_sldS dL_law_1086 q_499 ?_
                                                                                refine v_aload_n dL_law_1087 rfl ?_
                                                                                refine v_iload_n dL_law_1088 rfl ?_
                                                                                refine v_iconstE (2 : Int32) dL_law_1089 (by decide) ?_
                                                                                refine v_iadd dL_law_1090 ?_
                                                                                replace h := p_bind_elim h
                                                                                obtain ⟨x_500, q_501, h⟩ := h
                                                                                refine v_sldS dL_law_1091 q_501 ?_
                                                                                replace h := p_bind_elim h
                                                                                obtain ⟨_, q_504, h⟩ := h
                                                                                have q_504 := p_ob_spec q_504
                                                                                replace h := p_bind_elim h
                                                                                obtain ⟨r_502, q_503, h⟩ := h
                                                                                refine v_cVr (t_X9_drawn q_503) cal_X9_drawn ml_L_163 sel_X9_drawn q_504 kk_9 dL_law_1092 (by omega) (by (try simp only [v_n]); omega) (by (try simp only [v_n]); omega) (Nat.le_of_ble_eq_true rfl) rfl ?_
                                                                                refine v_aload_n dL_law_1095 rfl ?_
                                                                                refine v_aload_n dL_law_1096 rfl ?_
                                                                                refine v_iload_n dL_law_1097 rfl ?_
                                                                                refine v_iconstE (1 : Int32) dL_law_1098 (by decide) ?_
                                                                                refine v_iadd dL_law_1099 ?_
                                                                                replace h := p_bind_elim h
                                                                                obtain ⟨x_505, q_506, h⟩ := h
                                                                                refine v_sldS dL_law_1100 q_506 ?_
                                                                                refine v_aload_n dL_law_1101 rfl ?_
                                                                                refine v_iload_n dL_law_1102 rfl ?_
                                                                                refine v_iconstE (2 : Int32) dL_law_1103 (by decide) ?_
                                                                                refine v_iadd dL_law_1104 ?_
                                                                                replace h := p_bind_elim h
                                                                                obtain ⟨x_507, q_508, h⟩ := h
                                                                                refine v_sldS dL_law_1105 q_508 ?_
                                                                                replace h := p_bind_elim h
                                                                                obtain ⟨_, q_511, h⟩ := h
                                                                                have q_511 := p_ob_spec q_511
                                                                                replace h := p_bind_elim h
                                                                                obtain ⟨r_509, q_510, h⟩ := h
                                                                                refine v_cVr (t_X10_drawn q_510) cal_X10_drawn ml_L_166 sel_X10_drawn q_511 kk_10 dL_law_1106 (by omega) (by (try simp only [v_n]); omega) (by (try simp only [v_n]); omega) (Nat.le_of_ble_eq_true rfl) rfl ?_
                                                                                refine v_icmp_eq 1196 dL_law_1109 (by decide) (fun c_512 => ?_) (fun c_512 => ?_)
                                                                                · rw [if_pos c_512] at h
                                                                                  replace h := p_let_elim h
                                                                                  obtain ⟨x_513, h_514, h⟩ := h
                                                                                  refine v_iincE (6 : Int32) dL_law_1196 (by decide) rfl (by decide) ?_
                                                                                  rw [← h_514]
                                                                                  refine v_sub [(0, .ref sb), (1, .ref (B + w1)), (2, .ref (B + w2)), (3, .int x_513)] ⟨rfl, rfl, rfl, rfl, trivial⟩ ?_
                                                                                  refine v_goto 18 dL_law_1199 (by decide) ?_
                                                                                  cases h
                                                                                  refine v_sub [(0, .ref sb), (1, .ref (B + w1)), (2, .ref (B + w2)), (3, .int x_513)] ⟨rfl, rfl, rfl, rfl, trivial⟩ ?_
                                                                                  have hk_ : n18 ≤ 513 → _ := hk
                                                                                  exact v_widen (by omega) (by omega) (hk_ (by omega))
                                                                                · rw [if_neg c_512] at h
                                                                                  cases h
                                                                              · rw [if_neg c_601] at h
                                                                                by_cases c_602 : (x_12 &&& (63 : Int32)) = (37 : Int32)
                                                                                · rw [if_pos c_602] at h
                                                                                  refine v_swIn 1114 (37 : Int32) c_602 dL_law_33 (by decide) (by decide) rfl (by decide) ?_
                                                                                  refine v_aload_n dL_law_1114 rfl ?_
                                                                                  refine v_aload_n dL_law_1115 rfl ?_
                                                                                  refine v_iload_n dL_law_1116 rfl ?_
                                                                                  refine v_iconstE (1 : Int32) dL_law_1117 (by decide) ?_
                                                                                  refine v_iadd dL_law_1118 ?_
                                                                                  replace h := p_bind_elim h
                                                                                  obtain ⟨x_515, q_516, h⟩ := h
                                                                                  refine v_sldS dL_law_1119 q_516 ?_
                                                                                  replace h := p_bind_elim h
                                                                                  obtain ⟨_, q_519, h⟩ := h
                                                                                  have q_519 := p_ob_spec q_519
                                                                                  replace h := p_bind_elim h
                                                                                  obtain ⟨r_517, q_518, h⟩ := h
                                                                                  refine v_cVrc (t_X9_image q_518) cal_X9_image ml_L_167 sel_X9_image q_519 kk_9 dL_law_1120 (by omega) (by (try simp only [v_n]); omega) (by (try simp only [v_n]); omega) (Nat.le_of_ble_eq_true rfl) rfl ?_
                                                                                  refine v_aload_n dL_law_1123 rfl ?_
                                                                                  refine v_aload_n dL_law_1124 rfl ?_
                                                                                  refine v_iload_n dL_law_1125 rfl ?_
                                                                                  refine v_iconstE (1 : Int32) dL_law_1126 (by decide) ?_
                                                                                  refine v_iadd dL_law_1127 ?_
                                                                                  replace h := p_bind_elim h
                                                                                  obtain ⟨x_520, q_521, h⟩ := h
                                                                                  refine v_sldS dL_law_1128 q_521 ?_
                                                                                  replace h := p_bind_elim h
                                                                                  obtain ⟨_, q_524, h⟩ := h
                                                                                  have q_524 := p_ob_spec q_524
                                                                                  replace h := p_bind_elim h
                                                                                  obtain ⟨r_522, q_523, h⟩ := h
                                                                                  refine v_cVr (t_X10_image q_523) cal_X10_image ml_L_170 sel_X10_image q_524 kk_10 dL_law_1129 (by omega) (by (try simp only [v_n]); omega) (by (try simp only [v_n]); omega) (Nat.le_of_ble_eq_true rfl) rfl ?_
                                                                                  refine v_icmp_eq 1196 dL_law_1132 (by decide) (fun c_525 => ?_) (fun c_525 => ?_)
                                                                                  · rw [if_pos c_525] at h
                                                                                    replace h := p_let_elim h
                                                                                    obtain ⟨x_526, h_527, h⟩ := h
                                                                                    refine v_iincE (6 : Int32) dL_law_1196 (by decide) rfl (by decide) ?_
                                                                                    rw [← h_527]
                                                                                    refine v_sub [(0, .ref sb), (1, .ref (B + w1)), (2, .ref (B + w2)), (3, .int x_526)] ⟨rfl, rfl, rfl, rfl, trivial⟩ ?_
                                                                                    refine v_goto 18 dL_law_1199 (by decide) ?_
                                                                                    cases h
                                                                                    refine v_sub [(0, .ref sb), (1, .ref (B + w1)), (2, .ref (B + w2)), (3, .int x_526)] ⟨rfl, rfl, rfl, rfl, trivial⟩ ?_
                                                                                    have hk_ : n18 ≤ 513 → _ := hk
                                                                                    exact v_widen (by omega) (by omega) (hk_ (by omega))
                                                                                  · rw [if_neg c_525] at h
                                                                                    cases h
                                                                                · rw [if_neg c_602] at h
                                                                                  by_cases c_603 : (x_12 &&& (63 : Int32)) = (38 : Int32)
                                                                                  · rw [if_pos c_603] at h
                                                                                    refine v_swIn 1137 (38 : Int32) c_603 dL_law_33 (by decide) (by decide) rfl (by decide) ?_
                                                                                    refine v_aload_n dL_law_1137 rfl ?_
                                                                                    refine v_aload_n dL_law_1138 rfl ?_
                                                                                    refine v_iload_n dL_law_1139 rfl ?_
                                                                                    refine v_iconstE (1 : Int32) dL_law_1140 (by decide) ?_
                                                                                    refine v_iadd dL_law_1141 ?_
                                                                                    replace h := p_bind_elim h
                                                                                    obtain ⟨x_528, q_529, h⟩ := h
                                                                                    refine v_sldS dL_law_1142 q_529 ?_
                                                                                    replace h := p_bind_elim h
                                                                                    obtain ⟨_, q_532, h⟩ := h
                                                                                    have q_532 := p_ob_spec q_532
                                                                                    replace h := p_bind_elim h
                                                                                    obtain ⟨r_530, q_531, h⟩ := h
                                                                                    refine v_cVr (t_X9_back q_531) cal_X9_back ml_L_171 sel_X9_back q_532 kk_9 dL_law_1143 (by omega) (by (try simp only [v_n]); omega) (by (try simp only [v_n]); omega) (Nat.le_of_ble_eq_true rfl) rfl ?_
                                                                                    refine v_aload_n dL_law_1146 rfl ?_
                                                                                    refine v_aload_n dL_law_1147 rfl ?_
                                                                                    refine v_iload_n dL_law_1148 rfl ?_
                                                                                    refine v_iconstE (1 : Int32) dL_law_1149 (by decide) ?_
                                                                                    refine v_iadd dL_law_1150 ?_
                                                                                    replace h := p_bind_elim h
                                                                                    obtain ⟨x_533, q_534, h⟩ := h
                                                                                    refine v_sldS dL_law_1151 q_534 ?_
                                                                                    replace h := p_bind_elim h
                                                                                    obtain ⟨_, q_537, h⟩ := h
                                                                                    have q_537 := p_ob_spec q_537
                                                                                    replace h := p_bind_elim h
                                                                                    obtain ⟨r_535, q_536, h⟩ := h
                                                                                    refine v_cVr (t_X10_back q_536) cal_X10_back ml_L_174 sel_X10_back q_537 kk_10 dL_law_1152 (by omega) (by (try simp only [v_n]); omega) (by (try simp only [v_n]); omega) (Nat.le_of_ble_eq_true rfl) rfl ?_
                                                                                    refine v_icmp_eq 1196 dL_law_1155 (by decide) (fun c_538 => ?_) (fun c_538 => ?_)
                                                                                    · rw [if_pos c_538] at h
                                                                                      replace h := p_let_elim h
                                                                                      obtain ⟨x_539, h_540, h⟩ := h
                                                                                      refine v_iincE (6 : Int32) dL_law_1196 (by decide) rfl (by decide) ?_
                                                                                      rw [← h_540]
                                                                                      refine v_sub [(0, .ref sb), (1, .ref (B + w1)), (2, .ref (B + w2)), (3, .int x_539)] ⟨rfl, rfl, rfl, rfl, trivial⟩ ?_
                                                                                      refine v_goto 18 dL_law_1199 (by decide) ?_
                                                                                      cases h
                                                                                      refine v_sub [(0, .ref sb), (1, .ref (B + w1)), (2, .ref (B + w2)), (3, .int x_539)] ⟨rfl, rfl, rfl, rfl, trivial⟩ ?_
                                                                                      have hk_ : n18 ≤ 513 → _ := hk
                                                                                      exact v_widen (by omega) (by omega) (hk_ (by omega))
                                                                                    · rw [if_neg c_538] at h
                                                                                      cases h
                                                                                  · rw [if_neg c_603] at h
                                                                                    by_cases c_604 : (x_12 &&& (63 : Int32)) = (39 : Int32)
                                                                                    · rw [if_pos c_604] at h
                                                                                      refine v_swIn 1160 (39 : Int32) c_604 dL_law_33 (by decide) (by decide) rfl (by decide) ?_
                                                                                      refine v_aload_n dL_law_1160 rfl ?_
                                                                                      refine v_aload_n dL_law_1161 rfl ?_
                                                                                      refine v_iload_n dL_law_1162 rfl ?_
                                                                                      refine v_iconstE (1 : Int32) dL_law_1163 (by decide) ?_
                                                                                      refine v_iadd dL_law_1164 ?_
                                                                                      replace h := p_bind_elim h
                                                                                      obtain ⟨x_541, q_542, h⟩ := h
                                                                                      refine v_sldS dL_law_1165 q_542 ?_
                                                                                      replace h := p_bind_elim h
                                                                                      obtain ⟨_, q_545, h⟩ := h
                                                                                      have q_545 := p_ob_spec q_545
                                                                                      replace h := p_bind_elim h
                                                                                      obtain ⟨r_543, q_544, h⟩ := h
                                                                                      refine v_cVr (t_X9_count q_544) cal_X9_count ml_L_175 sel_X9_count q_545 kk_9 dL_law_1166 (by omega) (by (try simp only [v_n]); omega) (by (try simp only [v_n]); omega) (Nat.le_of_ble_eq_true rfl) rfl ?_
                                                                                      refine v_aload_n dL_law_1169 rfl ?_
                                                                                      refine v_aload_n dL_law_1170 rfl ?_
                                                                                      refine v_iload_n dL_law_1171 rfl ?_
                                                                                      refine v_iconstE (1 : Int32) dL_law_1172 (by decide) ?_
                                                                                      refine v_iadd dL_law_1173 ?_
                                                                                      replace h := p_bind_elim h
                                                                                      obtain ⟨x_546, q_547, h⟩ := h
                                                                                      refine v_sldS dL_law_1174 q_547 ?_
                                                                                      replace h := p_bind_elim h
                                                                                      obtain ⟨_, q_550, h⟩ := h
                                                                                      have q_550 := p_ob_spec q_550
                                                                                      replace h := p_bind_elim h
                                                                                      obtain ⟨r_548, q_549, h⟩ := h
                                                                                      refine v_cVr (t_X10_count q_549) cal_X10_count ml_L_178 sel_X10_count q_550 kk_10 dL_law_1175 (by omega) (by (try simp only [v_n]); omega) (by (try simp only [v_n]); omega) (Nat.le_of_ble_eq_true rfl) rfl ?_
                                                                                      refine v_icmp_eq 1196 dL_law_1178 (by decide) (fun c_551 => ?_) (fun c_551 => ?_)
                                                                                      · rw [if_pos c_551] at h
                                                                                        replace h := p_let_elim h
                                                                                        obtain ⟨x_552, h_553, h⟩ := h
                                                                                        refine v_iincE (6 : Int32) dL_law_1196 (by decide) rfl (by decide) ?_
                                                                                        rw [← h_553]
                                                                                        refine v_sub [(0, .ref sb), (1, .ref (B + w1)), (2, .ref (B + w2)), (3, .int x_552)] ⟨rfl, rfl, rfl, rfl, trivial⟩ ?_
                                                                                        refine v_goto 18 dL_law_1199 (by decide) ?_
                                                                                        cases h
                                                                                        refine v_sub [(0, .ref sb), (1, .ref (B + w1)), (2, .ref (B + w2)), (3, .int x_552)] ⟨rfl, rfl, rfl, rfl, trivial⟩ ?_
                                                                                        have hk_ : n18 ≤ 513 → _ := hk
                                                                                        exact v_widen (by omega) (by omega) (hk_ (by omega))
                                                                                      · rw [if_neg c_551] at h
                                                                                        cases h
                                                                                    · rw [if_neg c_604] at h
                                                                                      by_cases c_605 : (x_12 &&& (63 : Int32)) = (40 : Int32)
                                                                                      · rw [if_pos c_605] at h
                                                                                        refine v_swIn 1183 (40 : Int32) c_605 dL_law_33 (by decide) (by decide) rfl (by decide) ?_
                                                                                        refine v_aload_n dL_law_1183 rfl ?_
                                                                                        replace h := p_bind_elim h
                                                                                        obtain ⟨_, q_556, h⟩ := h
                                                                                        have q_556 := p_ob_spec q_556
                                                                                        replace h := p_bind_elim h
                                                                                        obtain ⟨r_554, q_555, h⟩ := h
                                                                                        refine v_cVr (t_X9_status q_555) cal_X9_status ml_L_179 sel_X9_status q_556 kk_9 dL_law_1184 (by omega) (by (try simp only [v_n]); omega) (by (try simp only [v_n]); omega) (Nat.le_of_ble_eq_true rfl) rfl ?_
                                                                                        refine v_aload_n dL_law_1187 rfl ?_
                                                                                        replace h := p_bind_elim h
                                                                                        obtain ⟨_, q_559, h⟩ := h
                                                                                        have q_559 := p_ob_spec q_559
                                                                                        replace h := p_bind_elim h
                                                                                        obtain ⟨r_557, q_558, h⟩ := h
                                                                                        refine v_cVr (t_X10_status q_558) cal_X10_status ml_L_182 sel_X10_status q_559 kk_10 dL_law_1188 (by omega) (by (try simp only [v_n]); omega) (by (try simp only [v_n]); omega) (Nat.le_of_ble_eq_true rfl) rfl ?_
                                                                                        refine v_icmp_eq 1196 dL_law_1191 (by decide) (fun c_560 => ?_) (fun c_560 => ?_)
                                                                                        · rw [if_pos c_560] at h
                                                                                          replace h := p_let_elim h
                                                                                          obtain ⟨x_561, h_562, h⟩ := h
                                                                                          refine v_iincE (6 : Int32) dL_law_1196 (by decide) rfl (by decide) ?_
                                                                                          rw [← h_562]
                                                                                          refine v_sub [(0, .ref sb), (1, .ref (B + w1)), (2, .ref (B + w2)), (3, .int x_561)] ⟨rfl, rfl, rfl, rfl, trivial⟩ ?_
                                                                                          refine v_goto 18 dL_law_1199 (by decide) ?_
                                                                                          cases h
                                                                                          refine v_sub [(0, .ref sb), (1, .ref (B + w1)), (2, .ref (B + w2)), (3, .int x_561)] ⟨rfl, rfl, rfl, rfl, trivial⟩ ?_
                                                                                          have hk_ : n18 ≤ 513 → _ := hk
                                                                                          exact v_widen (by omega) (by omega) (hk_ (by omega))
                                                                                        · rw [if_neg c_560] at h
                                                                                          cases h
                                                                                      · rw [if_neg c_605] at h
                                                                                        refine v_tableOut 1196 dL_law_33 (p_sw_out (fun k h1 h2 => by have h3 : k = 0 ∨ k = 1 ∨ k = 2 ∨ k = 3 ∨ k = 4 ∨ k = 5 ∨ k = 6 ∨ k = 7 ∨ k = 8 ∨ k = 9 ∨ k = 10 ∨ k = 11 ∨ k = 12 ∨ k = 13 ∨ k = 14 ∨ k = 15 ∨ k = 16 ∨ k = 17 ∨ k = 18 ∨ k = 19 ∨ k = 20 ∨ k = 21 ∨ k = 22 ∨ k = 23 ∨ k = 24 ∨ k = 25 ∨ k = 26 ∨ k = 27 ∨ k = 28 ∨ k = 29 ∨ k = 30 ∨ k = 31 ∨ k = 32 ∨ k = 33 ∨ k = 34 ∨ k = 35 ∨ k = 36 ∨ k = 37 ∨ k = 38 ∨ k = 39 ∨ k = 40 := (by omega); rcases h3 with rfl | rfl | rfl | rfl | rfl | rfl | rfl | rfl | rfl | rfl | rfl | rfl | rfl | rfl | rfl | rfl | rfl | rfl | rfl | rfl | rfl | rfl | rfl | rfl | rfl | rfl | rfl | rfl | rfl | rfl | rfl | rfl | rfl | rfl | rfl | rfl | rfl | rfl | rfl | rfl | rfl <;> first | exact c_565 | exact c_566 | exact c_567 | exact c_568 | exact c_569 | exact c_570 | exact c_571 | exact c_572 | exact c_573 | exact c_574 | exact c_575 | exact c_576 | exact c_577 | exact c_578 | exact c_579 | exact c_580 | exact c_581 | exact c_582 | exact c_583 | exact c_584 | exact c_585 | exact c_586 | exact c_587 | exact c_588 | exact c_589 | exact c_590 | exact c_591 | exact c_592 | exact c_593 | exact c_594 | exact c_595 | exact c_596 | exact c_597 | exact c_598 | exact c_599 | exact c_600 | exact c_601 | exact c_602 | exact c_603 | exact c_604 | exact c_605)) (by decide) ?_
                                                                                        replace h := p_let_elim h
                                                                                        obtain ⟨x_563, h_564, h⟩ := h
                                                                                        refine v_iincE (6 : Int32) dL_law_1196 (by decide) rfl (by decide) ?_
                                                                                        rw [← h_564]
                                                                                        refine v_sub [(0, .ref sb), (1, .ref (B + w1)), (2, .ref (B + w2)), (3, .int x_563)] ⟨rfl, rfl, rfl, rfl, trivial⟩ ?_
                                                                                        refine v_goto 18 dL_law_1199 (by decide) ?_
                                                                                        cases h
                                                                                        refine v_sub [(0, .ref sb), (1, .ref (B + w1)), (2, .ref (B + w2)), (3, .int x_563)] ⟨rfl, rfl, rfl, rfl, trivial⟩ ?_
                                                                                        have hk_ : n18 ≤ 513 → _ := hk
                                                                                        exact v_widen (by omega) (by omega) (hk_ (by omega))
  unfold f_L_law at h
  refine v_new dL_law_0 kc_9 cl_L_7 knt_9 kni_9 kdf_9 (by decide) (by decide) ?_
  replace h := p_let_elim h
  obtain ⟨S_1, h_2, h⟩ := h
  rw [← h_2]
  have q_3 := p_fresh h_2
  refine v_dup dL_law_3 rfl ?_
  replace h := p_bind_elim h
  obtain ⟨r_4, q_5, h⟩ := h
  refine v_cInc (t_X9_init q_5) cal_X9_init ml_L_9 ins_X9_init rfl dL_law_4 (by omega) (by decide) (by decide) (Nat.le_of_ble_eq_true rfl) rfl ?_
  refine v_astore_n dL_law_7 (by decide) ?_
  refine v_sub [(0, .ref sb), (1, .ref (B + S.length))] ⟨rfl, rfl, trivial⟩ ?_
  refine v_new dL_law_8 kc_10 cl_L_10 knt_10 kni_10 kdf_10 (by decide) (by decide) ?_
  replace h := p_let_elim h
  obtain ⟨S_6, h_7, h⟩ := h
  rw [← h_7]
  have q_8 := p_fresh h_7
  refine v_dup dL_law_11 rfl ?_
  replace h := p_bind_elim h
  obtain ⟨r_9, q_10, h⟩ := h
  refine v_cInc (t_X10_init q_10) cal_X10_init ml_L_12 ins_X10_init rfl dL_law_12 (by omega) (by decide) (by decide) (Nat.le_of_ble_eq_true rfl) rfl ?_
  refine v_astore_n dL_law_15 (by decide) ?_
  refine v_sub [(0, .ref sb), (1, .ref (B + S.length)), (2, .ref (B + r_4.1.length))] ⟨rfl, rfl, rfl, trivial⟩ ?_
  refine v_iconstE (0 : Int32) dL_law_16 (by decide) ?_
  refine v_istore_n dL_law_17 (by decide) ?_
  refine v_sub [(0, .ref sb), (1, .ref (B + S.length)), (2, .ref (B + r_4.1.length)), (3, .int (0 : Int32))] ⟨rfl, rfl, rfl, rfl, trivial⟩ ?_
  replace h := p_bind_elim h
  obtain ⟨q_606, h_607, h⟩ := h
  refine v_sub [(0, .ref sb), (1, .ref (B + S.length)), (2, .ref (B + r_4.1.length)), (3, .int (0 : Int32))] ⟨rfl, rfl, rfl, rfl, trivial⟩ ?_
  refine v_widen (cn' := ((((0 + 1) + 48) + 1) + 22) + (513 - 513) * 847) (sn' := ((((0 + 18) + 2141) + 48) + 19507) + (513 - 513) * 6112) (by (try simp only [v_n]); omega) (by (try simp only [v_n]); omega) ?_
  refine v_loopC (fun (nP : Nat) (sP : Int32 × v_S × v_I × v_J × v_F) => nP ≤ 513 → V l B D ac (v_EE B wa wb wt sb sL sx) (⟨RL, nm, "([I)Z"⟩ : MethodName) code 4 ret 2048 600000 7302250 (((((0 + 1) + 48) + 1) + 22) + (513 - nP) * 847) (((((0 + 18) + 2141) + 48) + 19507) + (513 - nP) * 6112) sP.2.1 sP.2.2.1 sP.2.2.2.1 sP.2.2.2.2 18 [(0, .ref sb), (1, .ref (B + S.length)), (2, .ref (B + r_4.1.length)), (3, .int sP.1)] [] Q) (fun (rE : Int32 × v_S × v_I × v_J × v_F) => V l B D ac (v_EE B wa wb wt sb sL sx) (⟨RL, nm, "([I)Z"⟩ : MethodName) code 4 ret 2048 600000 7302250 (((((0 + 1) + 48) + 1) + 22) + 513 * 847) (((((0 + 18) + 2141) + 48) + 19507) + 513 * 6112) rE.2.1 rE.2.2.1 rE.2.2.2.1 rE.2.2.2.2 1202 [] [] Q) (fun n_ s_ x_ hb hk hn => b18 n_ _ _ s_ x_ hb hn hk) (r := q_606) ?_ h_607 (Nat.le_refl _)
  try dsimp only
  refine v_iconstE (1 : Int32) dL_law_1202 (by decide) ?_
  cases h
  exact v_zret dL_law_1203 rfl rfl (by (try simp only [v_n]); omega) (by (try simp only [v_n]); omega) (hQ _ _ _ _)
end h13
