def f_X12_init_B1913 (v0 : Nat) (M : sMem) : Option sMem :=
  (nA 13 M ((5 : Int32))).bind fun (q1, M2) =>
  (stC M2 q1 ((0 : Int32)) ((100 : Int32))).bind fun M3 =>
  (stC M3 q1 ((1 : Int32)) ((114 : Int32))).bind fun M4 =>
  (stC M4 q1 ((2 : Int32)) ((105 : Int32))).bind fun M5 =>
  (stC M5 q1 ((3 : Int32)) ((118 : Int32))).bind fun M6 =>
  (stC M6 q1 ((4 : Int32)) ((101 : Int32))).bind fun M7 =>
  (pR 12 127 114 M7 v0 q1).bind fun M8 =>
  (nA 14 M8 ((1700 : Int32))).bind fun (q9, M10) =>
  (pR 12 127 115 M10 v0 q9).bind fun M11 =>
  (nA 14 M11 ((1700 : Int32))).bind fun (q12, M13) =>
  (pR 12 127 117 M13 v0 q12).bind fun M14 =>
  (nA 15 M14 ((1700 : Int32))).bind fun (q15, M16) =>
  (pR 12 127 121 M16 v0 q15).bind fun M17 =>
  (nA 14 M17 ((34 : Int32))).bind fun (q18, M19) =>
  (pR 12 127 125 M19 v0 q18).bind fun M20 =>
  some M20
def f_X12_init_B1814 (v0 : Nat) (M : sMem) : Option sMem :=
  (nA 13 M ((2 : Int32))).bind fun (q21, M22) =>
  (stC M22 q21 ((0 : Int32)) ((97 : Int32))).bind fun M23 =>
  (stC M23 q21 ((1 : Int32)) ((116 : Int32))).bind fun M24 =>
  (pR 12 127 110 M24 v0 q21).bind fun M25 =>
  (nA 13 M25 ((2 : Int32))).bind fun (q26, M27) =>
  (stC M27 q26 ((0 : Int32)) ((116 : Int32))).bind fun M28 =>
  (stC M28 q26 ((1 : Int32)) ((111 : Int32))).bind fun M29 =>
  (pR 12 127 111 M29 v0 q26).bind fun M30 =>
  (nA 13 M30 ((4 : Int32))).bind fun (q31, M32) =>
  (stC M32 q31 ((0 : Int32)) ((102 : Int32))).bind fun M33 =>
  (stC M33 q31 ((1 : Int32)) ((114 : Int32))).bind fun M34 =>
  (stC M34 q31 ((2 : Int32)) ((111 : Int32))).bind fun M35 =>
  (stC M35 q31 ((3 : Int32)) ((109 : Int32))).bind fun M36 =>
  (pR 12 127 112 M36 v0 q31).bind fun M37 =>
  (nA 13 M37 ((6 : Int32))).bind fun (q38, M39) =>
  (stC M39 q38 ((0 : Int32)) ((99 : Int32))).bind fun M40 =>
  (stC M40 q38 ((1 : Int32)) ((108 : Int32))).bind fun M41 =>
  (stC M41 q38 ((2 : Int32)) ((111 : Int32))).bind fun M42 =>
  (stC M42 q38 ((3 : Int32)) ((115 : Int32))).bind fun M43 =>
  (stC M43 q38 ((4 : Int32)) ((101 : Int32))).bind fun M44 =>
  (stC M44 q38 ((5 : Int32)) ((100 : Int32))).bind fun M45 =>
  (pR 12 127 113 M45 v0 q38).bind fun M46 =>
  f_X12_init_B1913 v0 M46
def f_X12_init_B1744 (v0 : Nat) (M : sMem) : Option sMem :=
  (nA 13 M ((5 : Int32))).bind fun (q47, M48) =>
  (stC M48 q47 ((0 : Int32)) ((107 : Int32))).bind fun M49 =>
  (stC M49 q47 ((1 : Int32)) ((110 : Int32))).bind fun M50 =>
  (stC M50 q47 ((2 : Int32)) ((111 : Int32))).bind fun M51 =>
  (stC M51 q47 ((3 : Int32)) ((119 : Int32))).bind fun M52 =>
  (stC M52 q47 ((4 : Int32)) ((115 : Int32))).bind fun M53 =>
  (pR 12 127 108 M53 v0 q47).bind fun M54 =>
  (nA 13 M54 ((6 : Int32))).bind fun (q55, M56) =>
  (stC M56 q55 ((0 : Int32)) ((110 : Int32))).bind fun M57 =>
  (stC M57 q55 ((1 : Int32)) ((117 : Int32))).bind fun M58 =>
  (stC M58 q55 ((2 : Int32)) ((109 : Int32))).bind fun M59 =>
  (stC M59 q55 ((3 : Int32)) ((98 : Int32))).bind fun M60 =>
  (stC M60 q55 ((4 : Int32)) ((101 : Int32))).bind fun M61 =>
  (stC M61 q55 ((5 : Int32)) ((114 : Int32))).bind fun M62 =>
  (pR 12 127 109 M62 v0 q55).bind fun M63 =>
  f_X12_init_B1814 v0 M63
def f_X12_init_B1663 (v0 : Nat) (M : sMem) : Option sMem :=
  (nA 13 M ((4 : Int32))).bind fun (q64, M65) =>
  (stC M65 q64 ((0 : Int32)) ((108 : Int32))).bind fun M66 =>
  (stC M66 q64 ((1 : Int32)) ((97 : Int32))).bind fun M67 =>
  (stC M67 q64 ((2 : Int32)) ((116 : Int32))).bind fun M68 =>
  (stC M68 q64 ((3 : Int32)) ((101 : Int32))).bind fun M69 =>
  (pR 12 127 105 M69 v0 q64).bind fun M70 =>
  (nA 13 M70 ((3 : Int32))).bind fun (q71, M72) =>
  (stC M72 q71 ((0 : Int32)) ((100 : Int32))).bind fun M73 =>
  (stC M73 q71 ((1 : Int32)) ((97 : Int32))).bind fun M74 =>
  (stC M74 q71 ((2 : Int32)) ((121 : Int32))).bind fun M75 =>
  (pR 12 127 106 M75 v0 q71).bind fun M76 =>
  (nA 13 M76 ((5 : Int32))).bind fun (q77, M78) =>
  (stC M78 q77 ((0 : Int32)) ((119 : Int32))).bind fun M79 =>
  (stC M79 q77 ((1 : Int32)) ((97 : Int32))).bind fun M80 =>
  (stC M80 q77 ((2 : Int32)) ((105 : Int32))).bind fun M81 =>
  (stC M81 q77 ((3 : Int32)) ((116 : Int32))).bind fun M82 =>
  (stC M82 q77 ((4 : Int32)) ((115 : Int32))).bind fun M83 =>
  (pR 12 127 107 M83 v0 q77).bind fun M84 =>
  f_X12_init_B1744 v0 M84
def f_X12_init_B1571 (v0 : Nat) (M : sMem) : Option sMem :=
  (nA 13 M ((4 : Int32))).bind fun (q85, M86) =>
  (stC M86 q85 ((0 : Int32)) ((108 : Int32))).bind fun M87 =>
  (stC M87 q85 ((1 : Int32)) ((111 : Int32))).bind fun M88 =>
  (stC M88 q85 ((2 : Int32)) ((110 : Int32))).bind fun M89 =>
  (stC M89 q85 ((3 : Int32)) ((103 : Int32))).bind fun M90 =>
  (pR 12 127 102 M90 v0 q85).bind fun M91 =>
  (nA 13 M91 ((4 : Int32))).bind fun (q92, M93) =>
  (stC M93 q92 ((0 : Int32)) ((112 : Int32))).bind fun M94 =>
  (stC M94 q92 ((1 : Int32)) ((97 : Int32))).bind fun M95 =>
  (stC M95 q92 ((2 : Int32)) ((99 : Int32))).bind fun M96 =>
  (stC M96 q92 ((3 : Int32)) ((101 : Int32))).bind fun M97 =>
  (pR 12 127 103 M97 v0 q92).bind fun M98 =>
  (nA 13 M98 ((6 : Int32))).bind fun (q99, M100) =>
  (stC M100 q99 ((0 : Int32)) ((109 : Int32))).bind fun M101 =>
  (stC M101 q99 ((1 : Int32)) ((105 : Int32))).bind fun M102 =>
  (stC M102 q99 ((2 : Int32)) ((110 : Int32))).bind fun M103 =>
  (stC M103 q99 ((3 : Int32)) ((117 : Int32))).bind fun M104 =>
  (stC M104 q99 ((4 : Int32)) ((116 : Int32))).bind fun M105 =>
  (stC M105 q99 ((5 : Int32)) ((101 : Int32))).bind fun M106 =>
  (pR 12 127 104 M106 v0 q99).bind fun M107 =>
  f_X12_init_B1663 v0 M107
def f_X12_init_B1479 (v0 : Nat) (M : sMem) : Option sMem :=
  (nA 13 M ((3 : Int32))).bind fun (q108, M109) =>
  (stC M109 q108 ((0 : Int32)) ((109 : Int32))).bind fun M110 =>
  (stC M110 q108 ((1 : Int32)) ((97 : Int32))).bind fun M111 =>
  (stC M111 q108 ((2 : Int32)) ((120 : Int32))).bind fun M112 =>
  (pR 12 127 99 M112 v0 q108).bind fun M113 =>
  (nA 13 M113 ((5 : Int32))).bind fun (q114, M115) =>
  (stC M115 q114 ((0 : Int32)) ((97 : Int32))).bind fun M116 =>
  (stC M116 q114 ((1 : Int32)) ((104 : Int32))).bind fun M117 =>
  (stC M117 q114 ((2 : Int32)) ((101 : Int32))).bind fun M118 =>
  (stC M118 q114 ((3 : Int32)) ((97 : Int32))).bind fun M119 =>
  (stC M119 q114 ((4 : Int32)) ((100 : Int32))).bind fun M120 =>
  (pR 12 127 100 M120 v0 q114).bind fun M121 =>
  (nA 13 M121 ((6 : Int32))).bind fun (q122, M123) =>
  (stC M123 q122 ((0 : Int32)) ((98 : Int32))).bind fun M124 =>
  (stC M124 q122 ((1 : Int32)) ((101 : Int32))).bind fun M125 =>
  (stC M125 q122 ((2 : Int32)) ((104 : Int32))).bind fun M126 =>
  (stC M126 q122 ((3 : Int32)) ((105 : Int32))).bind fun M127 =>
  (stC M127 q122 ((4 : Int32)) ((110 : Int32))).bind fun M128 =>
  (stC M128 q122 ((5 : Int32)) ((100 : Int32))).bind fun M129 =>
  (pR 12 127 101 M129 v0 q122).bind fun M130 =>
  f_X12_init_B1571 v0 M130
def f_X12_init_B1396 (v0 : Nat) (M : sMem) : Option sMem :=
  (nA 13 M ((3 : Int32))).bind fun (q131, M132) =>
  (stC M132 q131 ((0 : Int32)) ((97 : Int32))).bind fun M133 =>
  (stC M133 q131 ((1 : Int32)) ((110 : Int32))).bind fun M134 =>
  (stC M134 q131 ((2 : Int32)) ((100 : Int32))).bind fun M135 =>
  (pR 12 127 95 M135 v0 q131).bind fun M136 =>
  (nA 13 M136 ((2 : Int32))).bind fun (q137, M138) =>
  (stC M138 q137 ((0 : Int32)) ((111 : Int32))).bind fun M139 =>
  (stC M139 q137 ((1 : Int32)) ((114 : Int32))).bind fun M140 =>
  (pR 12 127 96 M140 v0 q137).bind fun M141 =>
  (nA 13 M141 ((3 : Int32))).bind fun (q142, M143) =>
  (stC M143 q142 ((0 : Int32)) ((97 : Int32))).bind fun M144 =>
  (stC M144 q142 ((1 : Int32)) ((108 : Int32))).bind fun M145 =>
  (stC M145 q142 ((2 : Int32)) ((108 : Int32))).bind fun M146 =>
  (pR 12 127 97 M146 v0 q142).bind fun M147 =>
  (nA 13 M147 ((3 : Int32))).bind fun (q148, M149) =>
  (stC M149 q148 ((0 : Int32)) ((109 : Int32))).bind fun M150 =>
  (stC M150 q148 ((1 : Int32)) ((105 : Int32))).bind fun M151 =>
  (stC M151 q148 ((2 : Int32)) ((110 : Int32))).bind fun M152 =>
  (pR 12 127 98 M152 v0 q148).bind fun M153 =>
  f_X12_init_B1479 v0 M153
def f_X12_init_B1315 (v0 : Nat) (M : sMem) : Option sMem :=
  (nA 13 M ((4 : Int32))).bind fun (q154, M155) =>
  (stC M155 q154 ((0 : Int32)) ((109 : Int32))).bind fun M156 =>
  (stC M156 q154 ((1 : Int32)) ((111 : Int32))).bind fun M157 =>
  (stC M157 q154 ((2 : Int32)) ((115 : Int32))).bind fun M158 =>
  (stC M158 q154 ((3 : Int32)) ((116 : Int32))).bind fun M159 =>
  (pR 12 127 92 M159 v0 q154).bind fun M160 =>
  (nA 13 M160 ((5 : Int32))).bind fun (q161, M162) =>
  (stC M162 q161 ((0 : Int32)) ((108 : Int32))).bind fun M163 =>
  (stC M163 q161 ((1 : Int32)) ((101 : Int32))).bind fun M164 =>
  (stC M164 q161 ((2 : Int32)) ((97 : Int32))).bind fun M165 =>
  (stC M165 q161 ((3 : Int32)) ((115 : Int32))).bind fun M166 =>
  (stC M166 q161 ((4 : Int32)) ((116 : Int32))).bind fun M167 =>
  (pR 12 127 93 M167 v0 q161).bind fun M168 =>
  (nA 13 M168 ((3 : Int32))).bind fun (q169, M170) =>
  (stC M170 q169 ((0 : Int32)) ((110 : Int32))).bind fun M171 =>
  (stC M171 q169 ((1 : Int32)) ((111 : Int32))).bind fun M172 =>
  (stC M172 q169 ((2 : Int32)) ((116 : Int32))).bind fun M173 =>
  (pR 12 127 94 M173 v0 q169).bind fun M174 =>
  f_X12_init_B1396 v0 M174
def f_X12_init_B1224 (v0 : Nat) (M : sMem) : Option sMem :=
  (nA 13 M ((4 : Int32))).bind fun (q175, M176) =>
  (stC M176 q175 ((0 : Int32)) ((108 : Int32))).bind fun M177 =>
  (stC M177 q175 ((1 : Int32)) ((97 : Int32))).bind fun M178 =>
  (stC M178 q175 ((2 : Int32)) ((115 : Int32))).bind fun M179 =>
  (stC M179 q175 ((3 : Int32)) ((116 : Int32))).bind fun M180 =>
  (pR 12 127 89 M180 v0 q175).bind fun M181 =>
  (nA 13 M181 ((5 : Int32))).bind fun (q182, M183) =>
  (stC M183 q182 ((0 : Int32)) ((111 : Int32))).bind fun M184 =>
  (stC M184 q182 ((1 : Int32)) ((102 : Int32))).bind fun M185 =>
  (stC M185 q182 ((2 : Int32)) ((116 : Int32))).bind fun M186 =>
  (stC M186 q182 ((3 : Int32)) ((101 : Int32))).bind fun M187 =>
  (stC M187 q182 ((4 : Int32)) ((110 : Int32))).bind fun M188 =>
  (pR 12 127 90 M188 v0 q182).bind fun M189 =>
  (nA 13 M189 ((5 : Int32))).bind fun (q190, M191) =>
  (stC M191 q190 ((0 : Int32)) ((116 : Int32))).bind fun M192 =>
  (stC M192 q190 ((1 : Int32)) ((111 : Int32))).bind fun M193 =>
  (stC M193 q190 ((2 : Int32)) ((116 : Int32))).bind fun M194 =>
  (stC M194 q190 ((3 : Int32)) ((97 : Int32))).bind fun M195 =>
  (stC M195 q190 ((4 : Int32)) ((108 : Int32))).bind fun M196 =>
  (pR 12 127 91 M196 v0 q190).bind fun M197 =>
  f_X12_init_B1315 v0 M197
def f_X12_init_B1138 (v0 : Nat) (M : sMem) : Option sMem :=
  (nA 14 M ((40 : Int32))).bind fun (q198, M199) =>
  (pR 12 127 77 M199 v0 q198).bind fun M200 =>
  (nA 14 M200 ((40 : Int32))).bind fun (q201, M202) =>
  (pR 12 127 78 M202 v0 q201).bind fun M203 =>
  (nA 14 M203 ((40 : Int32))).bind fun (q204, M205) =>
  (pR 12 127 79 M205 v0 q204).bind fun M206 =>
  (nA 14 M206 ((48 : Int32))).bind fun (q207, M208) =>
  (pR 12 127 81 M208 v0 q207).bind fun M209 =>
  (nA 16 M209 ((100 : Int32))).bind fun (q210, M211) =>
  (pR 12 127 82 M211 v0 q210).bind fun M212 =>
  (nA 14 M212 ((2960 : Int32))).bind fun (q213, M214) =>
  (pR 12 127 84 M214 v0 q213).bind fun M215 =>
  (pJ 12 127 87 M215 v0 ((1 : Int64))).bind fun M216 =>
  (nA 13 M216 ((5 : Int32))).bind fun (q217, M218) =>
  (stC M218 q217 ((0 : Int32)) ((102 : Int32))).bind fun M219 =>
  (stC M219 q217 ((1 : Int32)) ((105 : Int32))).bind fun M220 =>
  (stC M220 q217 ((2 : Int32)) ((114 : Int32))).bind fun M221 =>
  (stC M221 q217 ((3 : Int32)) ((115 : Int32))).bind fun M222 =>
  (stC M222 q217 ((4 : Int32)) ((116 : Int32))).bind fun M223 =>
  (pR 12 127 88 M223 v0 q217).bind fun M224 =>
  f_X12_init_B1224 v0 M224
def f_X12_init_B1036 (v0 : Nat) (M : sMem) : Option sMem :=
  (nA 14 M ((6 : Int32))).bind fun (q225, M226) =>
  (pR 12 127 53 M226 v0 q225).bind fun M227 =>
  (nA 14 M227 ((3200 : Int32))).bind fun (q228, M229) =>
  (pR 12 127 54 M229 v0 q228).bind fun M230 =>
  (nA 14 M230 ((148 : Int32))).bind fun (q231, M232) =>
  (pR 12 127 59 M232 v0 q231).bind fun M233 =>
  (nA 14 M233 ((27 : Int32))).bind fun (q234, M235) =>
  (pR 12 127 60 M235 v0 q234).bind fun M236 =>
  (nA 14 M236 ((5 : Int32))).bind fun (q237, M238) =>
  (pR 12 127 66 M238 v0 q237).bind fun M239 =>
  (nA 14 M239 ((35 : Int32))).bind fun (q240, M241) =>
  (pR 12 127 67 M241 v0 q240).bind fun M242 =>
  (nA 16 M242 ((1200 : Int32))).bind fun (q243, M244) =>
  (pR 12 127 68 M244 v0 q243).bind fun M245 =>
  (nA 16 M245 ((1400 : Int32))).bind fun (q246, M247) =>
  (pR 12 127 69 M247 v0 q246).bind fun M248 =>
  (nA 14 M248 ((600 : Int32))).bind fun (q249, M250) =>
  (pR 12 127 73 M250 v0 q249).bind fun M251 =>
  (nA 14 M251 ((600 : Int32))).bind fun (q252, M253) =>
  (pR 12 127 74 M253 v0 q252).bind fun M254 =>
  (nA 14 M254 ((600 : Int32))).bind fun (q255, M256) =>
  (pR 12 127 75 M256 v0 q255).bind fun M257 =>
  (nA 14 M257 ((40 : Int32))).bind fun (q258, M259) =>
  (pR 12 127 76 M259 v0 q258).bind fun M260 =>
  f_X12_init_B1138 v0 M260
def f_X12_init_B927 (v0 : Nat) (M : sMem) : Option sMem :=
  (nA 13 M ((3 : Int32))).bind fun (q261, M262) =>
  (stC M262 q261 ((0 : Int32)) ((109 : Int32))).bind fun M263 =>
  (stC M263 q261 ((1 : Int32)) ((97 : Int32))).bind fun M264 =>
  (stC M264 q261 ((2 : Int32)) ((120 : Int32))).bind fun M265 =>
  (pR 12 127 43 M265 v0 q261).bind fun M266 =>
  (nA 14 M266 ((4 : Int32))).bind fun (q267, M268) =>
  (pR 12 127 45 M268 v0 q267).bind fun M269 =>
  (nA 14 M269 ((10 : Int32))).bind fun (q270, M271) =>
  (pR 12 127 46 M271 v0 q270).bind fun M272 =>
  (nA 15 M272 ((64 : Int32))).bind fun (q273, M274) =>
  (pR 12 127 47 M274 v0 q273).bind fun M275 =>
  (nA 14 M275 ((12 : Int32))).bind fun (q276, M277) =>
  (pR 12 127 48 M277 v0 q276).bind fun M278 =>
  (nA 14 M278 ((96 : Int32))).bind fun (q279, M280) =>
  (pR 12 127 49 M280 v0 q279).bind fun M281 =>
  (nA 14 M281 ((30 : Int32))).bind fun (q282, M283) =>
  (pR 12 127 50 M283 v0 q282).bind fun M284 =>
  (nA 14 M284 ((30 : Int32))).bind fun (q285, M286) =>
  (pR 12 127 51 M286 v0 q285).bind fun M287 =>
  (nA 14 M287 ((6 : Int32))).bind fun (q288, M289) =>
  (stI M289 q288 ((0 : Int32)) ((-1 : Int32))).bind fun M290 =>
  (stI M290 q288 ((1 : Int32)) ((-1 : Int32))).bind fun M291 =>
  (stI M291 q288 ((2 : Int32)) ((-1 : Int32))).bind fun M292 =>
  (stI M292 q288 ((3 : Int32)) ((-1 : Int32))).bind fun M293 =>
  (stI M293 q288 ((4 : Int32)) ((-1 : Int32))).bind fun M294 =>
  (stI M294 q288 ((5 : Int32)) ((-1 : Int32))).bind fun M295 =>
  (pR 12 127 52 M295 v0 q288).bind fun M296 =>
  f_X12_init_B1036 v0 M296
def f_X12_init_B861 (v0 : Nat) (M : sMem) : Option sMem :=
  (nA 13 M ((3 : Int32))).bind fun (q297, M298) =>
  (stC M298 q297 ((0 : Int32)) ((110 : Int32))).bind fun M299 =>
  (stC M299 q297 ((1 : Int32)) ((111 : Int32))).bind fun M300 =>
  (stC M300 q297 ((2 : Int32)) ((116 : Int32))).bind fun M301 =>
  (pR 12 127 40 M301 v0 q297).bind fun M302 =>
  (nA 13 M302 ((3 : Int32))).bind fun (q303, M304) =>
  (stC M304 q303 ((0 : Int32)) ((97 : Int32))).bind fun M305 =>
  (stC M305 q303 ((1 : Int32)) ((108 : Int32))).bind fun M306 =>
  (stC M306 q303 ((2 : Int32)) ((108 : Int32))).bind fun M307 =>
  (pR 12 127 41 M307 v0 q303).bind fun M308 =>
  (nA 13 M308 ((3 : Int32))).bind fun (q309, M310) =>
  (stC M310 q309 ((0 : Int32)) ((109 : Int32))).bind fun M311 =>
  (stC M311 q309 ((1 : Int32)) ((105 : Int32))).bind fun M312 =>
  (stC M312 q309 ((2 : Int32)) ((110 : Int32))).bind fun M313 =>
  (pR 12 127 42 M313 v0 q309).bind fun M314 =>
  f_X12_init_B927 v0 M314
def f_X12_init_B790 (v0 : Nat) (M : sMem) : Option sMem :=
  (nA 13 M ((5 : Int32))).bind fun (q315, M316) =>
  (stC M316 q315 ((0 : Int32)) ((100 : Int32))).bind fun M317 =>
  (stC M317 q315 ((1 : Int32)) ((114 : Int32))).bind fun M318 =>
  (stC M318 q315 ((2 : Int32)) ((105 : Int32))).bind fun M319 =>
  (stC M319 q315 ((3 : Int32)) ((118 : Int32))).bind fun M320 =>
  (stC M320 q315 ((4 : Int32)) ((101 : Int32))).bind fun M321 =>
  (pR 12 127 37 M321 v0 q315).bind fun M322 =>
  (nA 13 M322 ((2 : Int32))).bind fun (q323, M324) =>
  (stC M324 q323 ((0 : Int32)) ((111 : Int32))).bind fun M325 =>
  (stC M325 q323 ((1 : Int32)) ((114 : Int32))).bind fun M326 =>
  (pR 12 127 38 M326 v0 q323).bind fun M327 =>
  (nA 13 M327 ((3 : Int32))).bind fun (q328, M329) =>
  (stC M329 q328 ((0 : Int32)) ((97 : Int32))).bind fun M330 =>
  (stC M330 q328 ((1 : Int32)) ((110 : Int32))).bind fun M331 =>
  (stC M331 q328 ((2 : Int32)) ((100 : Int32))).bind fun M332 =>
  (pR 12 127 39 M332 v0 q328).bind fun M333 =>
  f_X12_init_B861 v0 M333
def f_X12_init_B714 (v0 : Nat) (M : sMem) : Option sMem :=
  (nA 13 M ((6 : Int32))).bind fun (q334, M335) =>
  (stC M335 q334 ((0 : Int32)) ((110 : Int32))).bind fun M336 =>
  (stC M336 q334 ((1 : Int32)) ((117 : Int32))).bind fun M337 =>
  (stC M337 q334 ((2 : Int32)) ((109 : Int32))).bind fun M338 =>
  (stC M338 q334 ((3 : Int32)) ((98 : Int32))).bind fun M339 =>
  (stC M339 q334 ((4 : Int32)) ((101 : Int32))).bind fun M340 =>
  (stC M340 q334 ((5 : Int32)) ((114 : Int32))).bind fun M341 =>
  (pR 12 127 35 M341 v0 q334).bind fun M342 =>
  (nA 13 M342 ((6 : Int32))).bind fun (q343, M344) =>
  (stC M344 q343 ((0 : Int32)) ((99 : Int32))).bind fun M345 =>
  (stC M345 q343 ((1 : Int32)) ((108 : Int32))).bind fun M346 =>
  (stC M346 q343 ((2 : Int32)) ((111 : Int32))).bind fun M347 =>
  (stC M347 q343 ((3 : Int32)) ((115 : Int32))).bind fun M348 =>
  (stC M348 q343 ((4 : Int32)) ((101 : Int32))).bind fun M349 =>
  (stC M349 q343 ((5 : Int32)) ((100 : Int32))).bind fun M350 =>
  (pR 12 127 36 M350 v0 q343).bind fun M351 =>
  f_X12_init_B790 v0 M351
def f_X12_init_B628 (v0 : Nat) (M : sMem) : Option sMem :=
  (nA 13 M ((3 : Int32))).bind fun (q352, M353) =>
  (stC M353 q352 ((0 : Int32)) ((100 : Int32))).bind fun M354 =>
  (stC M354 q352 ((1 : Int32)) ((97 : Int32))).bind fun M355 =>
  (stC M355 q352 ((2 : Int32)) ((121 : Int32))).bind fun M356 =>
  (pR 12 127 32 M356 v0 q352).bind fun M357 =>
  (nA 13 M357 ((5 : Int32))).bind fun (q358, M359) =>
  (stC M359 q358 ((0 : Int32)) ((119 : Int32))).bind fun M360 =>
  (stC M360 q358 ((1 : Int32)) ((97 : Int32))).bind fun M361 =>
  (stC M361 q358 ((2 : Int32)) ((105 : Int32))).bind fun M362 =>
  (stC M362 q358 ((3 : Int32)) ((116 : Int32))).bind fun M363 =>
  (stC M363 q358 ((4 : Int32)) ((115 : Int32))).bind fun M364 =>
  (pR 12 127 33 M364 v0 q358).bind fun M365 =>
  (nA 13 M365 ((5 : Int32))).bind fun (q366, M367) =>
  (stC M367 q366 ((0 : Int32)) ((107 : Int32))).bind fun M368 =>
  (stC M368 q366 ((1 : Int32)) ((110 : Int32))).bind fun M369 =>
  (stC M369 q366 ((2 : Int32)) ((111 : Int32))).bind fun M370 =>
  (stC M370 q366 ((3 : Int32)) ((119 : Int32))).bind fun M371 =>
  (stC M371 q366 ((4 : Int32)) ((115 : Int32))).bind fun M372 =>
  (pR 12 127 34 M372 v0 q366).bind fun M373 =>
  f_X12_init_B714 v0 M373
def f_X12_init_B552 (v0 : Nat) (M : sMem) : Option sMem :=
  (nA 13 M ((6 : Int32))).bind fun (q374, M375) =>
  (stC M375 q374 ((0 : Int32)) ((98 : Int32))).bind fun M376 =>
  (stC M376 q374 ((1 : Int32)) ((101 : Int32))).bind fun M377 =>
  (stC M377 q374 ((2 : Int32)) ((104 : Int32))).bind fun M378 =>
  (stC M378 q374 ((3 : Int32)) ((105 : Int32))).bind fun M379 =>
  (stC M379 q374 ((4 : Int32)) ((110 : Int32))).bind fun M380 =>
  (stC M380 q374 ((5 : Int32)) ((100 : Int32))).bind fun M381 =>
  (pR 12 127 30 M381 v0 q374).bind fun M382 =>
  (nA 13 M382 ((6 : Int32))).bind fun (q383, M384) =>
  (stC M384 q383 ((0 : Int32)) ((109 : Int32))).bind fun M385 =>
  (stC M385 q383 ((1 : Int32)) ((105 : Int32))).bind fun M386 =>
  (stC M386 q383 ((2 : Int32)) ((110 : Int32))).bind fun M387 =>
  (stC M387 q383 ((3 : Int32)) ((117 : Int32))).bind fun M388 =>
  (stC M388 q383 ((4 : Int32)) ((116 : Int32))).bind fun M389 =>
  (stC M389 q383 ((5 : Int32)) ((101 : Int32))).bind fun M390 =>
  (pR 12 127 31 M390 v0 q383).bind fun M391 =>
  f_X12_init_B628 v0 M391
def f_X12_init_B466 (v0 : Nat) (M : sMem) : Option sMem :=
  (nA 13 M ((4 : Int32))).bind fun (q392, M393) =>
  (stC M393 q392 ((0 : Int32)) ((115 : Int32))).bind fun M394 =>
  (stC M394 q392 ((1 : Int32)) ((101 : Int32))).bind fun M395 =>
  (stC M395 q392 ((2 : Int32)) ((101 : Int32))).bind fun M396 =>
  (stC M396 q392 ((3 : Int32)) ((115 : Int32))).bind fun M397 =>
  (pR 12 127 27 M397 v0 q392).bind fun M398 =>
  (nA 13 M398 ((4 : Int32))).bind fun (q399, M400) =>
  (stC M400 q399 ((0 : Int32)) ((112 : Int32))).bind fun M401 =>
  (stC M401 q399 ((1 : Int32)) ((105 : Int32))).bind fun M402 =>
  (stC M402 q399 ((2 : Int32)) ((103 : Int32))).bind fun M403 =>
  (stC M403 q399 ((3 : Int32)) ((115 : Int32))).bind fun M404 =>
  (pR 12 127 28 M404 v0 q399).bind fun M405 =>
  (nA 13 M405 ((5 : Int32))).bind fun (q406, M407) =>
  (stC M407 q406 ((0 : Int32)) ((97 : Int32))).bind fun M408 =>
  (stC M408 q406 ((1 : Int32)) ((104 : Int32))).bind fun M409 =>
  (stC M409 q406 ((2 : Int32)) ((101 : Int32))).bind fun M410 =>
  (stC M410 q406 ((3 : Int32)) ((97 : Int32))).bind fun M411 =>
  (stC M411 q406 ((4 : Int32)) ((100 : Int32))).bind fun M412 =>
  (pR 12 127 29 M412 v0 q406).bind fun M413 =>
  f_X12_init_B552 v0 M413
def f_X12_init_B385 (v0 : Nat) (M : sMem) : Option sMem :=
  (nA 13 M ((3 : Int32))).bind fun (q414, M415) =>
  (stC M415 q414 ((0 : Int32)) ((99 : Int32))).bind fun M416 =>
  (stC M416 q414 ((1 : Int32)) ((97 : Int32))).bind fun M417 =>
  (stC M417 q414 ((2 : Int32)) ((114 : Int32))).bind fun M418 =>
  (pR 12 127 24 M418 v0 q414).bind fun M419 =>
  (nA 13 M419 ((5 : Int32))).bind fun (q420, M421) =>
  (stC M421 q420 ((0 : Int32)) ((115 : Int32))).bind fun M422 =>
  (stC M422 q420 ((1 : Int32)) ((104 : Int32))).bind fun M423 =>
  (stC M423 q420 ((2 : Int32)) ((117 : Int32))).bind fun M424 =>
  (stC M424 q420 ((3 : Int32)) ((116 : Int32))).bind fun M425 =>
  (stC M425 q420 ((4 : Int32)) ((115 : Int32))).bind fun M426 =>
  (pR 12 127 25 M426 v0 q420).bind fun M427 =>
  (nA 13 M427 ((4 : Int32))).bind fun (q428, M429) =>
  (stC M429 q428 ((0 : Int32)) ((108 : Int32))).bind fun M430 =>
  (stC M430 q428 ((1 : Int32)) ((97 : Int32))).bind fun M431 =>
  (stC M431 q428 ((2 : Int32)) ((116 : Int32))).bind fun M432 =>
  (stC M432 q428 ((3 : Int32)) ((101 : Int32))).bind fun M433 =>
  (pR 12 127 26 M433 v0 q428).bind fun M434 =>
  f_X12_init_B466 v0 M434
def f_X12_init_B304 (v0 : Nat) (M : sMem) : Option sMem :=
  (nA 13 M ((4 : Int32))).bind fun (q435, M436) =>
  (stC M436 q435 ((0 : Int32)) ((108 : Int32))).bind fun M437 =>
  (stC M437 q435 ((1 : Int32)) ((111 : Int32))).bind fun M438 =>
  (stC M438 q435 ((2 : Int32)) ((110 : Int32))).bind fun M439 =>
  (stC M439 q435 ((3 : Int32)) ((103 : Int32))).bind fun M440 =>
  (pR 12 127 21 M440 v0 q435).bind fun M441 =>
  (nA 13 M441 ((4 : Int32))).bind fun (q442, M443) =>
  (stC M443 q442 ((0 : Int32)) ((112 : Int32))).bind fun M444 =>
  (stC M444 q442 ((1 : Int32)) ((97 : Int32))).bind fun M445 =>
  (stC M445 q442 ((2 : Int32)) ((99 : Int32))).bind fun M446 =>
  (stC M446 q442 ((3 : Int32)) ((101 : Int32))).bind fun M447 =>
  (pR 12 127 22 M447 v0 q442).bind fun M448 =>
  (nA 13 M448 ((4 : Int32))).bind fun (q449, M450) =>
  (stC M450 q449 ((0 : Int32)) ((102 : Int32))).bind fun M451 =>
  (stC M451 q449 ((1 : Int32)) ((114 : Int32))).bind fun M452 =>
  (stC M452 q449 ((2 : Int32)) ((111 : Int32))).bind fun M453 =>
  (stC M453 q449 ((3 : Int32)) ((109 : Int32))).bind fun M454 =>
  (pR 12 127 23 M454 v0 q449).bind fun M455 =>
  f_X12_init_B385 v0 M455
def f_X12_init_B228 (v0 : Nat) (M : sMem) : Option sMem :=
  (nA 13 M ((4 : Int32))).bind fun (q456, M457) =>
  (stC M457 q456 ((0 : Int32)) ((108 : Int32))).bind fun M458 =>
  (stC M458 q456 ((1 : Int32)) ((97 : Int32))).bind fun M459 =>
  (stC M459 q456 ((2 : Int32)) ((110 : Int32))).bind fun M460 =>
  (stC M460 q456 ((3 : Int32)) ((101 : Int32))).bind fun M461 =>
  (pR 12 127 18 M461 v0 q456).bind fun M462 =>
  (nA 13 M462 ((4 : Int32))).bind fun (q463, M464) =>
  (stC M464 q463 ((0 : Int32)) ((111 : Int32))).bind fun M465 =>
  (stC M465 q463 ((1 : Int32)) ((118 : Int32))).bind fun M466 =>
  (stC M466 q463 ((2 : Int32)) ((101 : Int32))).bind fun M467 =>
  (stC M467 q463 ((3 : Int32)) ((114 : Int32))).bind fun M468 =>
  (pR 12 127 19 M468 v0 q463).bind fun M469 =>
  (nA 13 M469 ((3 : Int32))).bind fun (q470, M471) =>
  (stC M471 q470 ((0 : Int32)) ((101 : Int32))).bind fun M472 =>
  (stC M472 q470 ((1 : Int32)) ((114 : Int32))).bind fun M473 =>
  (stC M473 q470 ((2 : Int32)) ((97 : Int32))).bind fun M474 =>
  (pR 12 127 20 M474 v0 q470).bind fun M475 =>
  f_X12_init_B304 v0 M475
def f_X12_init_B152 (v0 : Nat) (M : sMem) : Option sMem :=
  (nA 13 M ((4 : Int32))).bind fun (q476, M477) =>
  (stC M477 q476 ((0 : Int32)) ((114 : Int32))).bind fun M478 =>
  (stC M478 q476 ((1 : Int32)) ((111 : Int32))).bind fun M479 =>
  (stC M479 q476 ((2 : Int32)) ((97 : Int32))).bind fun M480 =>
  (stC M480 q476 ((3 : Int32)) ((100 : Int32))).bind fun M481 =>
  (pR 12 127 15 M481 v0 q476).bind fun M482 =>
  (nA 13 M482 ((2 : Int32))).bind fun (q483, M484) =>
  (stC M484 q483 ((0 : Int32)) ((116 : Int32))).bind fun M485 =>
  (stC M485 q483 ((1 : Int32)) ((111 : Int32))).bind fun M486 =>
  (pR 12 127 16 M486 v0 q483).bind fun M487 =>
  (nA 13 M487 ((5 : Int32))).bind fun (q488, M489) =>
  (stC M489 q488 ((0 : Int32)) ((115 : Int32))).bind fun M490 =>
  (stC M490 q488 ((1 : Int32)) ((116 : Int32))).bind fun M491 =>
  (stC M491 q488 ((2 : Int32)) ((101 : Int32))).bind fun M492 =>
  (stC M492 q488 ((3 : Int32)) ((112 : Int32))).bind fun M493 =>
  (stC M493 q488 ((4 : Int32)) ((115 : Int32))).bind fun M494 =>
  (pR 12 127 17 M494 v0 q488).bind fun M495 =>
  f_X12_init_B228 v0 M495
def f_X12_init_B76 (v0 : Nat) (M : sMem) : Option sMem :=
  (nA 13 M ((4 : Int32))).bind fun (q496, M497) =>
  (stC M497 q496 ((0 : Int32)) ((103 : Int32))).bind fun M498 =>
  (stC M498 q496 ((1 : Int32)) ((97 : Int32))).bind fun M499 =>
  (stC M499 q496 ((2 : Int32)) ((116 : Int32))).bind fun M500 =>
  (stC M500 q496 ((3 : Int32)) ((101 : Int32))).bind fun M501 =>
  (pR 12 127 12 M501 v0 q496).bind fun M502 =>
  (nA 13 M502 ((2 : Int32))).bind fun (q503, M504) =>
  (stC M504 q503 ((0 : Int32)) ((97 : Int32))).bind fun M505 =>
  (stC M505 q503 ((1 : Int32)) ((116 : Int32))).bind fun M506 =>
  (pR 12 127 13 M506 v0 q503).bind fun M507 =>
  (nA 13 M507 ((5 : Int32))).bind fun (q508, M509) =>
  (stC M509 q508 ((0 : Int32)) ((112 : Int32))).bind fun M510 =>
  (stC M510 q508 ((1 : Int32)) ((108 : Int32))).bind fun M511 =>
  (stC M511 q508 ((2 : Int32)) ((97 : Int32))).bind fun M512 =>
  (stC M512 q508 ((3 : Int32)) ((99 : Int32))).bind fun M513 =>
  (stC M513 q508 ((4 : Int32)) ((101 : Int32))).bind fun M514 =>
  (pR 12 127 14 M514 v0 q508).bind fun M515 =>
  f_X12_init_B152 v0 M515
def f_X12_init (v0 : Nat) (M0 : sMem) : Option sMem :=
  (nA 14 M0 ((1600 : Int32))).bind fun (q516, M517) =>
  (pR 12 127 0 M517 v0 q516).bind fun M518 =>
  (pI 12 127 8 M518 v0 ((-1 : Int32))).bind fun M519 =>
  (nA 14 M519 ((6 : Int32))).bind fun (q520, M521) =>
  (pR 12 127 9 M521 v0 q520).bind fun M522 =>
  (nA 13 M522 ((8 : Int32))).bind fun (q523, M524) =>
  (stC M524 q523 ((0 : Int32)) ((100 : Int32))).bind fun M525 =>
  (stC M525 q523 ((1 : Int32)) ((105 : Int32))).bind fun M526 =>
  (stC M526 q523 ((2 : Int32)) ((115 : Int32))).bind fun M527 =>
  (stC M527 q523 ((3 : Int32)) ((116 : Int32))).bind fun M528 =>
  (stC M528 q523 ((4 : Int32)) ((114 : Int32))).bind fun M529 =>
  (stC M529 q523 ((5 : Int32)) ((105 : Int32))).bind fun M530 =>
  (stC M530 q523 ((6 : Int32)) ((99 : Int32))).bind fun M531 =>
  (stC M531 q523 ((7 : Int32)) ((116 : Int32))).bind fun M532 =>
  (pR 12 127 11 M532 v0 q523).bind fun M533 =>
  f_X12_init_B76 v0 M533
set_option maxRecDepth 100000 in
set_option maxHeartbeats 4000000 in
theorem m_X12_init (G : sG) (l : Launch) (v0 : Nat) (M0 : sMem) : sCv G l 1 yX12_init cX12_init 1 none [.ref v0] M0 (f_X12_init v0 M0) := by
  refine sC_v (ls := [some (.ref v0)]) (by decide +kernel) rfl (Nat.le_of_ble_eq_true rfl) (fun r M' K hr => ?_)
  unfold f_X12_init
  have xB1913 : ∀ (v0 : Nat) (M : sMem), sX G l 1 yX12_init cX12_init 1 none M0 r M' 1913 [some (.ref v0)] [] M (f_X12_init_B1913 v0 M) K := by
    intro v0 M
    unfold f_X12_init_B1913
    refine sX_aload_n (i := 0) (by decide +kernel) rfl ?_
    refine sX_iconst (n := 5) (v := (5 : Int32)) (by decide +kernel) (by decide) ?_
    refine sX_newa ak_char (by decide +kernel) (by decide) (fun q1 M2 => ?_)
    refine sX_dup (by decide +kernel) rfl ?_
    refine sX_iconst (n := 0) (v := (0 : Int32)) (by decide +kernel) (by decide) ?_
    refine sX_bipush (n := 100) (v := (100 : Int32)) (by decide +kernel) (by decide) ?_
    refine sX_castore (by decide +kernel) (by decide) (fun M3 => ?_)
    refine sX_dup (by decide +kernel) rfl ?_
    refine sX_iconst (n := 1) (v := (1 : Int32)) (by decide +kernel) (by decide) ?_
    refine sX_bipush (n := 114) (v := (114 : Int32)) (by decide +kernel) (by decide) ?_
    refine sX_castore (by decide +kernel) (by decide) (fun M4 => ?_)
    refine sX_dup (by decide +kernel) rfl ?_
    refine sX_iconst (n := 2) (v := (2 : Int32)) (by decide +kernel) (by decide) ?_
    refine sX_bipush (n := 105) (v := (105 : Int32)) (by decide +kernel) (by decide) ?_
    refine sX_castore (by decide +kernel) (by decide) (fun M5 => ?_)
    refine sX_dup (by decide +kernel) rfl ?_
    refine sX_iconst (n := 3) (v := (3 : Int32)) (by decide +kernel) (by decide) ?_
    refine sX_bipush (n := 118) (v := (118 : Int32)) (by decide +kernel) (by decide) ?_
    refine sX_castore (by decide +kernel) (by decide) (fun M6 => ?_)
    refine sX_dup (by decide +kernel) rfl ?_
    refine sX_iconst (n := 4) (v := (4 : Int32)) (by decide +kernel) (by decide) ?_
    refine sX_bipush (n := 101) (v := (101 : Int32)) (by decide +kernel) (by decide) ?_
    refine sX_castore (by decide +kernel) (by decide) (fun M7 => ?_)
    refine sX_putFR lg_X12_282 rfl tk_12_114 (by decide +kernel) (by decide) (fun M8 => ?_)
    refine sX_aload_n (i := 0) (by decide +kernel) rfl ?_
    refine sX_sipush (n := 1700) (v := (1700 : Int32)) (by decide +kernel) (by decide) ?_
    refine sX_newa ak_int (by decide +kernel) (by decide) (fun q9 M10 => ?_)
    refine sX_putFR lg_X12_285 rfl tk_12_115 (by decide +kernel) (by decide) (fun M11 => ?_)
    refine sX_aload_n (i := 0) (by decide +kernel) rfl ?_
    refine sX_sipush (n := 1700) (v := (1700 : Int32)) (by decide +kernel) (by decide) ?_
    refine sX_newa ak_int (by decide +kernel) (by decide) (fun q12 M13 => ?_)
    refine sX_putFR lg_X12_288 rfl tk_12_117 (by decide +kernel) (by decide) (fun M14 => ?_)
    refine sX_aload_n (i := 0) (by decide +kernel) rfl ?_
    refine sX_sipush (n := 1700) (v := (1700 : Int32)) (by decide +kernel) (by decide) ?_
    refine sX_newa ak_long (by decide +kernel) (by decide) (fun q15 M16 => ?_)
    refine sX_putFR lg_X12_291 rfl tk_12_121 (by decide +kernel) (by decide) (fun M17 => ?_)
    refine sX_aload_n (i := 0) (by decide +kernel) rfl ?_
    refine sX_bipush (n := 34) (v := (34 : Int32)) (by decide +kernel) (by decide) ?_
    refine sX_newa ak_int (by decide +kernel) (by decide) (fun q18 M19 => ?_)
    refine sX_putFR lg_X12_294 rfl tk_12_125 (by decide +kernel) (by decide) (fun M20 => ?_)
    exact sX_some (fun h _ => sW_vret (by decide +kernel) rfl (hr _ h).1.symm (hr _ h).2.symm)
  have xB1814 : ∀ (v0 : Nat) (M : sMem), sX G l 1 yX12_init cX12_init 1 none M0 r M' 1814 [some (.ref v0)] [] M (f_X12_init_B1814 v0 M) K := by
    intro v0 M
    unfold f_X12_init_B1814
    refine sX_aload_n (i := 0) (by decide +kernel) rfl ?_
    refine sX_iconst (n := 2) (v := (2 : Int32)) (by decide +kernel) (by decide) ?_
    refine sX_newa ak_char (by decide +kernel) (by decide) (fun q21 M22 => ?_)
    refine sX_dup (by decide +kernel) rfl ?_
    refine sX_iconst (n := 0) (v := (0 : Int32)) (by decide +kernel) (by decide) ?_
    refine sX_bipush (n := 97) (v := (97 : Int32)) (by decide +kernel) (by decide) ?_
    refine sX_castore (by decide +kernel) (by decide) (fun M23 => ?_)
    refine sX_dup (by decide +kernel) rfl ?_
    refine sX_iconst (n := 1) (v := (1 : Int32)) (by decide +kernel) (by decide) ?_
    refine sX_bipush (n := 116) (v := (116 : Int32)) (by decide +kernel) (by decide) ?_
    refine sX_castore (by decide +kernel) (by decide) (fun M24 => ?_)
    refine sX_putFR lg_X12_270 rfl tk_12_110 (by decide +kernel) (by decide) (fun M25 => ?_)
    refine sX_aload_n (i := 0) (by decide +kernel) rfl ?_
    refine sX_iconst (n := 2) (v := (2 : Int32)) (by decide +kernel) (by decide) ?_
    refine sX_newa ak_char (by decide +kernel) (by decide) (fun q26 M27 => ?_)
    refine sX_dup (by decide +kernel) rfl ?_
    refine sX_iconst (n := 0) (v := (0 : Int32)) (by decide +kernel) (by decide) ?_
    refine sX_bipush (n := 116) (v := (116 : Int32)) (by decide +kernel) (by decide) ?_
    refine sX_castore (by decide +kernel) (by decide) (fun M28 => ?_)
    refine sX_dup (by decide +kernel) rfl ?_
    refine sX_iconst (n := 1) (v := (1 : Int32)) (by decide +kernel) (by decide) ?_
    refine sX_bipush (n := 111) (v := (111 : Int32)) (by decide +kernel) (by decide) ?_
    refine sX_castore (by decide +kernel) (by decide) (fun M29 => ?_)
    refine sX_putFR lg_X12_273 rfl tk_12_111 (by decide +kernel) (by decide) (fun M30 => ?_)
    refine sX_aload_n (i := 0) (by decide +kernel) rfl ?_
    refine sX_iconst (n := 4) (v := (4 : Int32)) (by decide +kernel) (by decide) ?_
    refine sX_newa ak_char (by decide +kernel) (by decide) (fun q31 M32 => ?_)
    refine sX_dup (by decide +kernel) rfl ?_
    refine sX_iconst (n := 0) (v := (0 : Int32)) (by decide +kernel) (by decide) ?_
    refine sX_bipush (n := 102) (v := (102 : Int32)) (by decide +kernel) (by decide) ?_
    refine sX_castore (by decide +kernel) (by decide) (fun M33 => ?_)
    refine sX_dup (by decide +kernel) rfl ?_
    refine sX_iconst (n := 1) (v := (1 : Int32)) (by decide +kernel) (by decide) ?_
    refine sX_bipush (n := 114) (v := (114 : Int32)) (by decide +kernel) (by decide) ?_
    refine sX_castore (by decide +kernel) (by decide) (fun M34 => ?_)
    refine sX_dup (by decide +kernel) rfl ?_
    refine sX_iconst (n := 2) (v := (2 : Int32)) (by decide +kernel) (by decide) ?_
    refine sX_bipush (n := 111) (v := (111 : Int32)) (by decide +kernel) (by decide) ?_
    refine sX_castore (by decide +kernel) (by decide) (fun M35 => ?_)
    refine sX_dup (by decide +kernel) rfl ?_
    refine sX_iconst (n := 3) (v := (3 : Int32)) (by decide +kernel) (by decide) ?_
    refine sX_bipush (n := 109) (v := (109 : Int32)) (by decide +kernel) (by decide) ?_
    refine sX_castore (by decide +kernel) (by decide) (fun M36 => ?_)
    refine sX_putFR lg_X12_276 rfl tk_12_112 (by decide +kernel) (by decide) (fun M37 => ?_)
    refine sX_aload_n (i := 0) (by decide +kernel) rfl ?_
    refine sX_bipush (n := 6) (v := (6 : Int32)) (by decide +kernel) (by decide) ?_
    refine sX_newa ak_char (by decide +kernel) (by decide) (fun q38 M39 => ?_)
    refine sX_dup (by decide +kernel) rfl ?_
    refine sX_iconst (n := 0) (v := (0 : Int32)) (by decide +kernel) (by decide) ?_
    refine sX_bipush (n := 99) (v := (99 : Int32)) (by decide +kernel) (by decide) ?_
    refine sX_castore (by decide +kernel) (by decide) (fun M40 => ?_)
    refine sX_dup (by decide +kernel) rfl ?_
    refine sX_iconst (n := 1) (v := (1 : Int32)) (by decide +kernel) (by decide) ?_
    refine sX_bipush (n := 108) (v := (108 : Int32)) (by decide +kernel) (by decide) ?_
    refine sX_castore (by decide +kernel) (by decide) (fun M41 => ?_)
    refine sX_dup (by decide +kernel) rfl ?_
    refine sX_iconst (n := 2) (v := (2 : Int32)) (by decide +kernel) (by decide) ?_
    refine sX_bipush (n := 111) (v := (111 : Int32)) (by decide +kernel) (by decide) ?_
    refine sX_castore (by decide +kernel) (by decide) (fun M42 => ?_)
    refine sX_dup (by decide +kernel) rfl ?_
    refine sX_iconst (n := 3) (v := (3 : Int32)) (by decide +kernel) (by decide) ?_
    refine sX_bipush (n := 115) (v := (115 : Int32)) (by decide +kernel) (by decide) ?_
    refine sX_castore (by decide +kernel) (by decide) (fun M43 => ?_)
    refine sX_dup (by decide +kernel) rfl ?_
    refine sX_iconst (n := 4) (v := (4 : Int32)) (by decide +kernel) (by decide) ?_
    refine sX_bipush (n := 101) (v := (101 : Int32)) (by decide +kernel) (by decide) ?_
    refine sX_castore (by decide +kernel) (by decide) (fun M44 => ?_)
    refine sX_dup (by decide +kernel) rfl ?_
    refine sX_iconst (n := 5) (v := (5 : Int32)) (by decide +kernel) (by decide) ?_
    refine sX_bipush (n := 100) (v := (100 : Int32)) (by decide +kernel) (by decide) ?_
    refine sX_castore (by decide +kernel) (by decide) (fun M45 => ?_)
    refine sX_putFR lg_X12_279 rfl tk_12_113 (by decide +kernel) (by decide) (fun M46 => ?_)
    exact sX.le (xB1913 v0 M46) (sLe_s sLe_e)
  have xB1744 : ∀ (v0 : Nat) (M : sMem), sX G l 1 yX12_init cX12_init 1 none M0 r M' 1744 [some (.ref v0)] [] M (f_X12_init_B1744 v0 M) K := by
    intro v0 M
    unfold f_X12_init_B1744
    refine sX_aload_n (i := 0) (by decide +kernel) rfl ?_
    refine sX_iconst (n := 5) (v := (5 : Int32)) (by decide +kernel) (by decide) ?_
    refine sX_newa ak_char (by decide +kernel) (by decide) (fun q47 M48 => ?_)
    refine sX_dup (by decide +kernel) rfl ?_
    refine sX_iconst (n := 0) (v := (0 : Int32)) (by decide +kernel) (by decide) ?_
    refine sX_bipush (n := 107) (v := (107 : Int32)) (by decide +kernel) (by decide) ?_
    refine sX_castore (by decide +kernel) (by decide) (fun M49 => ?_)
    refine sX_dup (by decide +kernel) rfl ?_
    refine sX_iconst (n := 1) (v := (1 : Int32)) (by decide +kernel) (by decide) ?_
    refine sX_bipush (n := 110) (v := (110 : Int32)) (by decide +kernel) (by decide) ?_
    refine sX_castore (by decide +kernel) (by decide) (fun M50 => ?_)
    refine sX_dup (by decide +kernel) rfl ?_
    refine sX_iconst (n := 2) (v := (2 : Int32)) (by decide +kernel) (by decide) ?_
    refine sX_bipush (n := 111) (v := (111 : Int32)) (by decide +kernel) (by decide) ?_
    refine sX_castore (by decide +kernel) (by decide) (fun M51 => ?_)
    refine sX_dup (by decide +kernel) rfl ?_
    refine sX_iconst (n := 3) (v := (3 : Int32)) (by decide +kernel) (by decide) ?_
    refine sX_bipush (n := 119) (v := (119 : Int32)) (by decide +kernel) (by decide) ?_
    refine sX_castore (by decide +kernel) (by decide) (fun M52 => ?_)
    refine sX_dup (by decide +kernel) rfl ?_
    refine sX_iconst (n := 4) (v := (4 : Int32)) (by decide +kernel) (by decide) ?_
    refine sX_bipush (n := 115) (v := (115 : Int32)) (by decide +kernel) (by decide) ?_
    refine sX_castore (by decide +kernel) (by decide) (fun M53 => ?_)
    refine sX_putFR lg_X12_264 rfl tk_12_108 (by decide +kernel) (by decide) (fun M54 => ?_)
    refine sX_aload_n (i := 0) (by decide +kernel) rfl ?_
    refine sX_bipush (n := 6) (v := (6 : Int32)) (by decide +kernel) (by decide) ?_
    refine sX_newa ak_char (by decide +kernel) (by decide) (fun q55 M56 => ?_)
    refine sX_dup (by decide +kernel) rfl ?_
    refine sX_iconst (n := 0) (v := (0 : Int32)) (by decide +kernel) (by decide) ?_
    refine sX_bipush (n := 110) (v := (110 : Int32)) (by decide +kernel) (by decide) ?_
    refine sX_castore (by decide +kernel) (by decide) (fun M57 => ?_)
    refine sX_dup (by decide +kernel) rfl ?_
    refine sX_iconst (n := 1) (v := (1 : Int32)) (by decide +kernel) (by decide) ?_
    refine sX_bipush (n := 117) (v := (117 : Int32)) (by decide +kernel) (by decide) ?_
    refine sX_castore (by decide +kernel) (by decide) (fun M58 => ?_)
    refine sX_dup (by decide +kernel) rfl ?_
    refine sX_iconst (n := 2) (v := (2 : Int32)) (by decide +kernel) (by decide) ?_
    refine sX_bipush (n := 109) (v := (109 : Int32)) (by decide +kernel) (by decide) ?_
    refine sX_castore (by decide +kernel) (by decide) (fun M59 => ?_)
    refine sX_dup (by decide +kernel) rfl ?_
    refine sX_iconst (n := 3) (v := (3 : Int32)) (by decide +kernel) (by decide) ?_
    refine sX_bipush (n := 98) (v := (98 : Int32)) (by decide +kernel) (by decide) ?_
    refine sX_castore (by decide +kernel) (by decide) (fun M60 => ?_)
    refine sX_dup (by decide +kernel) rfl ?_
    refine sX_iconst (n := 4) (v := (4 : Int32)) (by decide +kernel) (by decide) ?_
    refine sX_bipush (n := 101) (v := (101 : Int32)) (by decide +kernel) (by decide) ?_
    refine sX_castore (by decide +kernel) (by decide) (fun M61 => ?_)
    refine sX_dup (by decide +kernel) rfl ?_
    refine sX_iconst (n := 5) (v := (5 : Int32)) (by decide +kernel) (by decide) ?_
    refine sX_bipush (n := 114) (v := (114 : Int32)) (by decide +kernel) (by decide) ?_
    refine sX_castore (by decide +kernel) (by decide) (fun M62 => ?_)
    refine sX_putFR lg_X12_267 rfl tk_12_109 (by decide +kernel) (by decide) (fun M63 => ?_)
    exact sX.le (xB1814 v0 M63) (sLe_s sLe_e)
  have xB1663 : ∀ (v0 : Nat) (M : sMem), sX G l 1 yX12_init cX12_init 1 none M0 r M' 1663 [some (.ref v0)] [] M (f_X12_init_B1663 v0 M) K := by
    intro v0 M
    unfold f_X12_init_B1663
    refine sX_aload_n (i := 0) (by decide +kernel) rfl ?_
    refine sX_iconst (n := 4) (v := (4 : Int32)) (by decide +kernel) (by decide) ?_
    refine sX_newa ak_char (by decide +kernel) (by decide) (fun q64 M65 => ?_)
    refine sX_dup (by decide +kernel) rfl ?_
    refine sX_iconst (n := 0) (v := (0 : Int32)) (by decide +kernel) (by decide) ?_
    refine sX_bipush (n := 108) (v := (108 : Int32)) (by decide +kernel) (by decide) ?_
    refine sX_castore (by decide +kernel) (by decide) (fun M66 => ?_)
    refine sX_dup (by decide +kernel) rfl ?_
    refine sX_iconst (n := 1) (v := (1 : Int32)) (by decide +kernel) (by decide) ?_
    refine sX_bipush (n := 97) (v := (97 : Int32)) (by decide +kernel) (by decide) ?_
    refine sX_castore (by decide +kernel) (by decide) (fun M67 => ?_)
    refine sX_dup (by decide +kernel) rfl ?_
    refine sX_iconst (n := 2) (v := (2 : Int32)) (by decide +kernel) (by decide) ?_
    refine sX_bipush (n := 116) (v := (116 : Int32)) (by decide +kernel) (by decide) ?_
    refine sX_castore (by decide +kernel) (by decide) (fun M68 => ?_)
    refine sX_dup (by decide +kernel) rfl ?_
    refine sX_iconst (n := 3) (v := (3 : Int32)) (by decide +kernel) (by decide) ?_
    refine sX_bipush (n := 101) (v := (101 : Int32)) (by decide +kernel) (by decide) ?_
    refine sX_castore (by decide +kernel) (by decide) (fun M69 => ?_)
    refine sX_putFR lg_X12_255 rfl tk_12_105 (by decide +kernel) (by decide) (fun M70 => ?_)
    refine sX_aload_n (i := 0) (by decide +kernel) rfl ?_
    refine sX_iconst (n := 3) (v := (3 : Int32)) (by decide +kernel) (by decide) ?_
    refine sX_newa ak_char (by decide +kernel) (by decide) (fun q71 M72 => ?_)
    refine sX_dup (by decide +kernel) rfl ?_
    refine sX_iconst (n := 0) (v := (0 : Int32)) (by decide +kernel) (by decide) ?_
    refine sX_bipush (n := 100) (v := (100 : Int32)) (by decide +kernel) (by decide) ?_
    refine sX_castore (by decide +kernel) (by decide) (fun M73 => ?_)
    refine sX_dup (by decide +kernel) rfl ?_
    refine sX_iconst (n := 1) (v := (1 : Int32)) (by decide +kernel) (by decide) ?_
    refine sX_bipush (n := 97) (v := (97 : Int32)) (by decide +kernel) (by decide) ?_
    refine sX_castore (by decide +kernel) (by decide) (fun M74 => ?_)
    refine sX_dup (by decide +kernel) rfl ?_
    refine sX_iconst (n := 2) (v := (2 : Int32)) (by decide +kernel) (by decide) ?_
    refine sX_bipush (n := 121) (v := (121 : Int32)) (by decide +kernel) (by decide) ?_
    refine sX_castore (by decide +kernel) (by decide) (fun M75 => ?_)
    refine sX_putFR lg_X12_258 rfl tk_12_106 (by decide +kernel) (by decide) (fun M76 => ?_)
    refine sX_aload_n (i := 0) (by decide +kernel) rfl ?_
    refine sX_iconst (n := 5) (v := (5 : Int32)) (by decide +kernel) (by decide) ?_
    refine sX_newa ak_char (by decide +kernel) (by decide) (fun q77 M78 => ?_)
    refine sX_dup (by decide +kernel) rfl ?_
    refine sX_iconst (n := 0) (v := (0 : Int32)) (by decide +kernel) (by decide) ?_
    refine sX_bipush (n := 119) (v := (119 : Int32)) (by decide +kernel) (by decide) ?_
    refine sX_castore (by decide +kernel) (by decide) (fun M79 => ?_)
    refine sX_dup (by decide +kernel) rfl ?_
    refine sX_iconst (n := 1) (v := (1 : Int32)) (by decide +kernel) (by decide) ?_
    refine sX_bipush (n := 97) (v := (97 : Int32)) (by decide +kernel) (by decide) ?_
    refine sX_castore (by decide +kernel) (by decide) (fun M80 => ?_)
    refine sX_dup (by decide +kernel) rfl ?_
    refine sX_iconst (n := 2) (v := (2 : Int32)) (by decide +kernel) (by decide) ?_
    refine sX_bipush (n := 105) (v := (105 : Int32)) (by decide +kernel) (by decide) ?_
    refine sX_castore (by decide +kernel) (by decide) (fun M81 => ?_)
    refine sX_dup (by decide +kernel) rfl ?_
    refine sX_iconst (n := 3) (v := (3 : Int32)) (by decide +kernel) (by decide) ?_
    refine sX_bipush (n := 116) (v := (116 : Int32)) (by decide +kernel) (by decide) ?_
    refine sX_castore (by decide +kernel) (by decide) (fun M82 => ?_)
    refine sX_dup (by decide +kernel) rfl ?_
    refine sX_iconst (n := 4) (v := (4 : Int32)) (by decide +kernel) (by decide) ?_
    refine sX_bipush (n := 115) (v := (115 : Int32)) (by decide +kernel) (by decide) ?_
    refine sX_castore (by decide +kernel) (by decide) (fun M83 => ?_)
    refine sX_putFR lg_X12_261 rfl tk_12_107 (by decide +kernel) (by decide) (fun M84 => ?_)
    exact sX.le (xB1744 v0 M84) (sLe_s sLe_e)
  have xB1571 : ∀ (v0 : Nat) (M : sMem), sX G l 1 yX12_init cX12_init 1 none M0 r M' 1571 [some (.ref v0)] [] M (f_X12_init_B1571 v0 M) K := by
    intro v0 M
    unfold f_X12_init_B1571
    refine sX_aload_n (i := 0) (by decide +kernel) rfl ?_
    refine sX_iconst (n := 4) (v := (4 : Int32)) (by decide +kernel) (by decide) ?_
    refine sX_newa ak_char (by decide +kernel) (by decide) (fun q85 M86 => ?_)
    refine sX_dup (by decide +kernel) rfl ?_
    refine sX_iconst (n := 0) (v := (0 : Int32)) (by decide +kernel) (by decide) ?_
    refine sX_bipush (n := 108) (v := (108 : Int32)) (by decide +kernel) (by decide) ?_
    refine sX_castore (by decide +kernel) (by decide) (fun M87 => ?_)
    refine sX_dup (by decide +kernel) rfl ?_
    refine sX_iconst (n := 1) (v := (1 : Int32)) (by decide +kernel) (by decide) ?_
    refine sX_bipush (n := 111) (v := (111 : Int32)) (by decide +kernel) (by decide) ?_
    refine sX_castore (by decide +kernel) (by decide) (fun M88 => ?_)
    refine sX_dup (by decide +kernel) rfl ?_
    refine sX_iconst (n := 2) (v := (2 : Int32)) (by decide +kernel) (by decide) ?_
    refine sX_bipush (n := 110) (v := (110 : Int32)) (by decide +kernel) (by decide) ?_
    refine sX_castore (by decide +kernel) (by decide) (fun M89 => ?_)
    refine sX_dup (by decide +kernel) rfl ?_
    refine sX_iconst (n := 3) (v := (3 : Int32)) (by decide +kernel) (by decide) ?_
    refine sX_bipush (n := 103) (v := (103 : Int32)) (by decide +kernel) (by decide) ?_
    refine sX_castore (by decide +kernel) (by decide) (fun M90 => ?_)
    refine sX_putFR lg_X12_246 rfl tk_12_102 (by decide +kernel) (by decide) (fun M91 => ?_)
    refine sX_aload_n (i := 0) (by decide +kernel) rfl ?_
    refine sX_iconst (n := 4) (v := (4 : Int32)) (by decide +kernel) (by decide) ?_
    refine sX_newa ak_char (by decide +kernel) (by decide) (fun q92 M93 => ?_)
    refine sX_dup (by decide +kernel) rfl ?_
    refine sX_iconst (n := 0) (v := (0 : Int32)) (by decide +kernel) (by decide) ?_
    refine sX_bipush (n := 112) (v := (112 : Int32)) (by decide +kernel) (by decide) ?_
    refine sX_castore (by decide +kernel) (by decide) (fun M94 => ?_)
    refine sX_dup (by decide +kernel) rfl ?_
    refine sX_iconst (n := 1) (v := (1 : Int32)) (by decide +kernel) (by decide) ?_
    refine sX_bipush (n := 97) (v := (97 : Int32)) (by decide +kernel) (by decide) ?_
    refine sX_castore (by decide +kernel) (by decide) (fun M95 => ?_)
    refine sX_dup (by decide +kernel) rfl ?_
    refine sX_iconst (n := 2) (v := (2 : Int32)) (by decide +kernel) (by decide) ?_
    refine sX_bipush (n := 99) (v := (99 : Int32)) (by decide +kernel) (by decide) ?_
    refine sX_castore (by decide +kernel) (by decide) (fun M96 => ?_)
    refine sX_dup (by decide +kernel) rfl ?_
    refine sX_iconst (n := 3) (v := (3 : Int32)) (by decide +kernel) (by decide) ?_
    refine sX_bipush (n := 101) (v := (101 : Int32)) (by decide +kernel) (by decide) ?_
    refine sX_castore (by decide +kernel) (by decide) (fun M97 => ?_)
    refine sX_putFR lg_X12_249 rfl tk_12_103 (by decide +kernel) (by decide) (fun M98 => ?_)
    refine sX_aload_n (i := 0) (by decide +kernel) rfl ?_
    refine sX_bipush (n := 6) (v := (6 : Int32)) (by decide +kernel) (by decide) ?_
    refine sX_newa ak_char (by decide +kernel) (by decide) (fun q99 M100 => ?_)
    refine sX_dup (by decide +kernel) rfl ?_
    refine sX_iconst (n := 0) (v := (0 : Int32)) (by decide +kernel) (by decide) ?_
    refine sX_bipush (n := 109) (v := (109 : Int32)) (by decide +kernel) (by decide) ?_
    refine sX_castore (by decide +kernel) (by decide) (fun M101 => ?_)
    refine sX_dup (by decide +kernel) rfl ?_
    refine sX_iconst (n := 1) (v := (1 : Int32)) (by decide +kernel) (by decide) ?_
    refine sX_bipush (n := 105) (v := (105 : Int32)) (by decide +kernel) (by decide) ?_
    refine sX_castore (by decide +kernel) (by decide) (fun M102 => ?_)
    refine sX_dup (by decide +kernel) rfl ?_
    refine sX_iconst (n := 2) (v := (2 : Int32)) (by decide +kernel) (by decide) ?_
    refine sX_bipush (n := 110) (v := (110 : Int32)) (by decide +kernel) (by decide) ?_
    refine sX_castore (by decide +kernel) (by decide) (fun M103 => ?_)
    refine sX_dup (by decide +kernel) rfl ?_
    refine sX_iconst (n := 3) (v := (3 : Int32)) (by decide +kernel) (by decide) ?_
    refine sX_bipush (n := 117) (v := (117 : Int32)) (by decide +kernel) (by decide) ?_
    refine sX_castore (by decide +kernel) (by decide) (fun M104 => ?_)
    refine sX_dup (by decide +kernel) rfl ?_
    refine sX_iconst (n := 4) (v := (4 : Int32)) (by decide +kernel) (by decide) ?_
    refine sX_bipush (n := 116) (v := (116 : Int32)) (by decide +kernel) (by decide) ?_
    refine sX_castore (by decide +kernel) (by decide) (fun M105 => ?_)
    refine sX_dup (by decide +kernel) rfl ?_
    refine sX_iconst (n := 5) (v := (5 : Int32)) (by decide +kernel) (by decide) ?_
    refine sX_bipush (n := 101) (v := (101 : Int32)) (by decide +kernel) (by decide) ?_
    refine sX_castore (by decide +kernel) (by decide) (fun M106 => ?_)
    refine sX_putFR lg_X12_252 rfl tk_12_104 (by decide +kernel) (by decide) (fun M107 => ?_)
    exact sX.le (xB1663 v0 M107) (sLe_s sLe_e)
  have xB1479 : ∀ (v0 : Nat) (M : sMem), sX G l 1 yX12_init cX12_init 1 none M0 r M' 1479 [some (.ref v0)] [] M (f_X12_init_B1479 v0 M) K := by
    intro v0 M
    unfold f_X12_init_B1479
    refine sX_aload_n (i := 0) (by decide +kernel) rfl ?_
    refine sX_iconst (n := 3) (v := (3 : Int32)) (by decide +kernel) (by decide) ?_
    refine sX_newa ak_char (by decide +kernel) (by decide) (fun q108 M109 => ?_)
    refine sX_dup (by decide +kernel) rfl ?_
    refine sX_iconst (n := 0) (v := (0 : Int32)) (by decide +kernel) (by decide) ?_
    refine sX_bipush (n := 109) (v := (109 : Int32)) (by decide +kernel) (by decide) ?_
    refine sX_castore (by decide +kernel) (by decide) (fun M110 => ?_)
    refine sX_dup (by decide +kernel) rfl ?_
    refine sX_iconst (n := 1) (v := (1 : Int32)) (by decide +kernel) (by decide) ?_
    refine sX_bipush (n := 97) (v := (97 : Int32)) (by decide +kernel) (by decide) ?_
    refine sX_castore (by decide +kernel) (by decide) (fun M111 => ?_)
    refine sX_dup (by decide +kernel) rfl ?_
    refine sX_iconst (n := 2) (v := (2 : Int32)) (by decide +kernel) (by decide) ?_
    refine sX_bipush (n := 120) (v := (120 : Int32)) (by decide +kernel) (by decide) ?_
    refine sX_castore (by decide +kernel) (by decide) (fun M112 => ?_)
    refine sX_putFR lg_X12_237 rfl tk_12_99 (by decide +kernel) (by decide) (fun M113 => ?_)
    refine sX_aload_n (i := 0) (by decide +kernel) rfl ?_
    refine sX_iconst (n := 5) (v := (5 : Int32)) (by decide +kernel) (by decide) ?_
    refine sX_newa ak_char (by decide +kernel) (by decide) (fun q114 M115 => ?_)
    refine sX_dup (by decide +kernel) rfl ?_
    refine sX_iconst (n := 0) (v := (0 : Int32)) (by decide +kernel) (by decide) ?_
    refine sX_bipush (n := 97) (v := (97 : Int32)) (by decide +kernel) (by decide) ?_
    refine sX_castore (by decide +kernel) (by decide) (fun M116 => ?_)
    refine sX_dup (by decide +kernel) rfl ?_
    refine sX_iconst (n := 1) (v := (1 : Int32)) (by decide +kernel) (by decide) ?_
    refine sX_bipush (n := 104) (v := (104 : Int32)) (by decide +kernel) (by decide) ?_
    refine sX_castore (by decide +kernel) (by decide) (fun M117 => ?_)
    refine sX_dup (by decide +kernel) rfl ?_
    refine sX_iconst (n := 2) (v := (2 : Int32)) (by decide +kernel) (by decide) ?_
    refine sX_bipush (n := 101) (v := (101 : Int32)) (by decide +kernel) (by decide) ?_
    refine sX_castore (by decide +kernel) (by decide) (fun M118 => ?_)
    refine sX_dup (by decide +kernel) rfl ?_
    refine sX_iconst (n := 3) (v := (3 : Int32)) (by decide +kernel) (by decide) ?_
    refine sX_bipush (n := 97) (v := (97 : Int32)) (by decide +kernel) (by decide) ?_
    refine sX_castore (by decide +kernel) (by decide) (fun M119 => ?_)
    refine sX_dup (by decide +kernel) rfl ?_
    refine sX_iconst (n := 4) (v := (4 : Int32)) (by decide +kernel) (by decide) ?_
    refine sX_bipush (n := 100) (v := (100 : Int32)) (by decide +kernel) (by decide) ?_
    refine sX_castore (by decide +kernel) (by decide) (fun M120 => ?_)
    refine sX_putFR lg_X12_240 rfl tk_12_100 (by decide +kernel) (by decide) (fun M121 => ?_)
    refine sX_aload_n (i := 0) (by decide +kernel) rfl ?_
    refine sX_bipush (n := 6) (v := (6 : Int32)) (by decide +kernel) (by decide) ?_
    refine sX_newa ak_char (by decide +kernel) (by decide) (fun q122 M123 => ?_)
    refine sX_dup (by decide +kernel) rfl ?_
    refine sX_iconst (n := 0) (v := (0 : Int32)) (by decide +kernel) (by decide) ?_
    refine sX_bipush (n := 98) (v := (98 : Int32)) (by decide +kernel) (by decide) ?_
    refine sX_castore (by decide +kernel) (by decide) (fun M124 => ?_)
    refine sX_dup (by decide +kernel) rfl ?_
    refine sX_iconst (n := 1) (v := (1 : Int32)) (by decide +kernel) (by decide) ?_
    refine sX_bipush (n := 101) (v := (101 : Int32)) (by decide +kernel) (by decide) ?_
    refine sX_castore (by decide +kernel) (by decide) (fun M125 => ?_)
    refine sX_dup (by decide +kernel) rfl ?_
    refine sX_iconst (n := 2) (v := (2 : Int32)) (by decide +kernel) (by decide) ?_
    refine sX_bipush (n := 104) (v := (104 : Int32)) (by decide +kernel) (by decide) ?_
    refine sX_castore (by decide +kernel) (by decide) (fun M126 => ?_)
    refine sX_dup (by decide +kernel) rfl ?_
    refine sX_iconst (n := 3) (v := (3 : Int32)) (by decide +kernel) (by decide) ?_
    refine sX_bipush (n := 105) (v := (105 : Int32)) (by decide +kernel) (by decide) ?_
    refine sX_castore (by decide +kernel) (by decide) (fun M127 => ?_)
    refine sX_dup (by decide +kernel) rfl ?_
    refine sX_iconst (n := 4) (v := (4 : Int32)) (by decide +kernel) (by decide) ?_
    refine sX_bipush (n := 110) (v := (110 : Int32)) (by decide +kernel) (by decide) ?_
    refine sX_castore (by decide +kernel) (by decide) (fun M128 => ?_)
    refine sX_dup (by decide +kernel) rfl ?_
    refine sX_iconst (n := 5) (v := (5 : Int32)) (by decide +kernel) (by decide) ?_
    refine sX_bipush (n := 100) (v := (100 : Int32)) (by decide +kernel) (by decide) ?_
    refine sX_castore (by decide +kernel) (by decide) (fun M129 => ?_)
    refine sX_putFR lg_X12_243 rfl tk_12_101 (by decide +kernel) (by decide) (fun M130 => ?_)
    exact sX.le (xB1571 v0 M130) (sLe_s sLe_e)
  have xB1396 : ∀ (v0 : Nat) (M : sMem), sX G l 1 yX12_init cX12_init 1 none M0 r M' 1396 [some (.ref v0)] [] M (f_X12_init_B1396 v0 M) K := by
    intro v0 M
    unfold f_X12_init_B1396
    refine sX_aload_n (i := 0) (by decide +kernel) rfl ?_
    refine sX_iconst (n := 3) (v := (3 : Int32)) (by decide +kernel) (by decide) ?_
    refine sX_newa ak_char (by decide +kernel) (by decide) (fun q131 M132 => ?_)
    refine sX_dup (by decide +kernel) rfl ?_
    refine sX_iconst (n := 0) (v := (0 : Int32)) (by decide +kernel) (by decide) ?_
    refine sX_bipush (n := 97) (v := (97 : Int32)) (by decide +kernel) (by decide) ?_
    refine sX_castore (by decide +kernel) (by decide) (fun M133 => ?_)
    refine sX_dup (by decide +kernel) rfl ?_
    refine sX_iconst (n := 1) (v := (1 : Int32)) (by decide +kernel) (by decide) ?_
    refine sX_bipush (n := 110) (v := (110 : Int32)) (by decide +kernel) (by decide) ?_
    refine sX_castore (by decide +kernel) (by decide) (fun M134 => ?_)
    refine sX_dup (by decide +kernel) rfl ?_
    refine sX_iconst (n := 2) (v := (2 : Int32)) (by decide +kernel) (by decide) ?_
    refine sX_bipush (n := 100) (v := (100 : Int32)) (by decide +kernel) (by decide) ?_
    refine sX_castore (by decide +kernel) (by decide) (fun M135 => ?_)
    refine sX_putFR lg_X12_225 rfl tk_12_95 (by decide +kernel) (by decide) (fun M136 => ?_)
    refine sX_aload_n (i := 0) (by decide +kernel) rfl ?_
    refine sX_iconst (n := 2) (v := (2 : Int32)) (by decide +kernel) (by decide) ?_
    refine sX_newa ak_char (by decide +kernel) (by decide) (fun q137 M138 => ?_)
    refine sX_dup (by decide +kernel) rfl ?_
    refine sX_iconst (n := 0) (v := (0 : Int32)) (by decide +kernel) (by decide) ?_
    refine sX_bipush (n := 111) (v := (111 : Int32)) (by decide +kernel) (by decide) ?_
    refine sX_castore (by decide +kernel) (by decide) (fun M139 => ?_)
    refine sX_dup (by decide +kernel) rfl ?_
    refine sX_iconst (n := 1) (v := (1 : Int32)) (by decide +kernel) (by decide) ?_
    refine sX_bipush (n := 114) (v := (114 : Int32)) (by decide +kernel) (by decide) ?_
    refine sX_castore (by decide +kernel) (by decide) (fun M140 => ?_)
    refine sX_putFR lg_X12_228 rfl tk_12_96 (by decide +kernel) (by decide) (fun M141 => ?_)
    refine sX_aload_n (i := 0) (by decide +kernel) rfl ?_
    refine sX_iconst (n := 3) (v := (3 : Int32)) (by decide +kernel) (by decide) ?_
    refine sX_newa ak_char (by decide +kernel) (by decide) (fun q142 M143 => ?_)
    refine sX_dup (by decide +kernel) rfl ?_
    refine sX_iconst (n := 0) (v := (0 : Int32)) (by decide +kernel) (by decide) ?_
    refine sX_bipush (n := 97) (v := (97 : Int32)) (by decide +kernel) (by decide) ?_
    refine sX_castore (by decide +kernel) (by decide) (fun M144 => ?_)
    refine sX_dup (by decide +kernel) rfl ?_
    refine sX_iconst (n := 1) (v := (1 : Int32)) (by decide +kernel) (by decide) ?_
    refine sX_bipush (n := 108) (v := (108 : Int32)) (by decide +kernel) (by decide) ?_
    refine sX_castore (by decide +kernel) (by decide) (fun M145 => ?_)
    refine sX_dup (by decide +kernel) rfl ?_
    refine sX_iconst (n := 2) (v := (2 : Int32)) (by decide +kernel) (by decide) ?_
    refine sX_bipush (n := 108) (v := (108 : Int32)) (by decide +kernel) (by decide) ?_
    refine sX_castore (by decide +kernel) (by decide) (fun M146 => ?_)
    refine sX_putFR lg_X12_231 rfl tk_12_97 (by decide +kernel) (by decide) (fun M147 => ?_)
    refine sX_aload_n (i := 0) (by decide +kernel) rfl ?_
    refine sX_iconst (n := 3) (v := (3 : Int32)) (by decide +kernel) (by decide) ?_
    refine sX_newa ak_char (by decide +kernel) (by decide) (fun q148 M149 => ?_)
    refine sX_dup (by decide +kernel) rfl ?_
    refine sX_iconst (n := 0) (v := (0 : Int32)) (by decide +kernel) (by decide) ?_
    refine sX_bipush (n := 109) (v := (109 : Int32)) (by decide +kernel) (by decide) ?_
    refine sX_castore (by decide +kernel) (by decide) (fun M150 => ?_)
    refine sX_dup (by decide +kernel) rfl ?_
    refine sX_iconst (n := 1) (v := (1 : Int32)) (by decide +kernel) (by decide) ?_
    refine sX_bipush (n := 105) (v := (105 : Int32)) (by decide +kernel) (by decide) ?_
    refine sX_castore (by decide +kernel) (by decide) (fun M151 => ?_)
    refine sX_dup (by decide +kernel) rfl ?_
    refine sX_iconst (n := 2) (v := (2 : Int32)) (by decide +kernel) (by decide) ?_
    refine sX_bipush (n := 110) (v := (110 : Int32)) (by decide +kernel) (by decide) ?_
    refine sX_castore (by decide +kernel) (by decide) (fun M152 => ?_)
    refine sX_putFR lg_X12_234 rfl tk_12_98 (by decide +kernel) (by decide) (fun M153 => ?_)
    exact sX.le (xB1479 v0 M153) (sLe_s sLe_e)
  have xB1315 : ∀ (v0 : Nat) (M : sMem), sX G l 1 yX12_init cX12_init 1 none M0 r M' 1315 [some (.ref v0)] [] M (f_X12_init_B1315 v0 M) K := by
    intro v0 M
    unfold f_X12_init_B1315
    refine sX_aload_n (i := 0) (by decide +kernel) rfl ?_
    refine sX_iconst (n := 4) (v := (4 : Int32)) (by decide +kernel) (by decide) ?_
    refine sX_newa ak_char (by decide +kernel) (by decide) (fun q154 M155 => ?_)
    refine sX_dup (by decide +kernel) rfl ?_
    refine sX_iconst (n := 0) (v := (0 : Int32)) (by decide +kernel) (by decide) ?_
    refine sX_bipush (n := 109) (v := (109 : Int32)) (by decide +kernel) (by decide) ?_
    refine sX_castore (by decide +kernel) (by decide) (fun M156 => ?_)
    refine sX_dup (by decide +kernel) rfl ?_
    refine sX_iconst (n := 1) (v := (1 : Int32)) (by decide +kernel) (by decide) ?_
    refine sX_bipush (n := 111) (v := (111 : Int32)) (by decide +kernel) (by decide) ?_
    refine sX_castore (by decide +kernel) (by decide) (fun M157 => ?_)
    refine sX_dup (by decide +kernel) rfl ?_
    refine sX_iconst (n := 2) (v := (2 : Int32)) (by decide +kernel) (by decide) ?_
    refine sX_bipush (n := 115) (v := (115 : Int32)) (by decide +kernel) (by decide) ?_
    refine sX_castore (by decide +kernel) (by decide) (fun M158 => ?_)
    refine sX_dup (by decide +kernel) rfl ?_
    refine sX_iconst (n := 3) (v := (3 : Int32)) (by decide +kernel) (by decide) ?_
    refine sX_bipush (n := 116) (v := (116 : Int32)) (by decide +kernel) (by decide) ?_
    refine sX_castore (by decide +kernel) (by decide) (fun M159 => ?_)
    refine sX_putFR lg_X12_216 rfl tk_12_92 (by decide +kernel) (by decide) (fun M160 => ?_)
    refine sX_aload_n (i := 0) (by decide +kernel) rfl ?_
    refine sX_iconst (n := 5) (v := (5 : Int32)) (by decide +kernel) (by decide) ?_
    refine sX_newa ak_char (by decide +kernel) (by decide) (fun q161 M162 => ?_)
    refine sX_dup (by decide +kernel) rfl ?_
    refine sX_iconst (n := 0) (v := (0 : Int32)) (by decide +kernel) (by decide) ?_
    refine sX_bipush (n := 108) (v := (108 : Int32)) (by decide +kernel) (by decide) ?_
    refine sX_castore (by decide +kernel) (by decide) (fun M163 => ?_)
    refine sX_dup (by decide +kernel) rfl ?_
    refine sX_iconst (n := 1) (v := (1 : Int32)) (by decide +kernel) (by decide) ?_
    refine sX_bipush (n := 101) (v := (101 : Int32)) (by decide +kernel) (by decide) ?_
    refine sX_castore (by decide +kernel) (by decide) (fun M164 => ?_)
    refine sX_dup (by decide +kernel) rfl ?_
    refine sX_iconst (n := 2) (v := (2 : Int32)) (by decide +kernel) (by decide) ?_
    refine sX_bipush (n := 97) (v := (97 : Int32)) (by decide +kernel) (by decide) ?_
    refine sX_castore (by decide +kernel) (by decide) (fun M165 => ?_)
    refine sX_dup (by decide +kernel) rfl ?_
    refine sX_iconst (n := 3) (v := (3 : Int32)) (by decide +kernel) (by decide) ?_
    refine sX_bipush (n := 115) (v := (115 : Int32)) (by decide +kernel) (by decide) ?_
    refine sX_castore (by decide +kernel) (by decide) (fun M166 => ?_)
    refine sX_dup (by decide +kernel) rfl ?_
    refine sX_iconst (n := 4) (v := (4 : Int32)) (by decide +kernel) (by decide) ?_
    refine sX_bipush (n := 116) (v := (116 : Int32)) (by decide +kernel) (by decide) ?_
    refine sX_castore (by decide +kernel) (by decide) (fun M167 => ?_)
    refine sX_putFR lg_X12_219 rfl tk_12_93 (by decide +kernel) (by decide) (fun M168 => ?_)
    refine sX_aload_n (i := 0) (by decide +kernel) rfl ?_
    refine sX_iconst (n := 3) (v := (3 : Int32)) (by decide +kernel) (by decide) ?_
    refine sX_newa ak_char (by decide +kernel) (by decide) (fun q169 M170 => ?_)
    refine sX_dup (by decide +kernel) rfl ?_
    refine sX_iconst (n := 0) (v := (0 : Int32)) (by decide +kernel) (by decide) ?_
    refine sX_bipush (n := 110) (v := (110 : Int32)) (by decide +kernel) (by decide) ?_
    refine sX_castore (by decide +kernel) (by decide) (fun M171 => ?_)
    refine sX_dup (by decide +kernel) rfl ?_
    refine sX_iconst (n := 1) (v := (1 : Int32)) (by decide +kernel) (by decide) ?_
    refine sX_bipush (n := 111) (v := (111 : Int32)) (by decide +kernel) (by decide) ?_
    refine sX_castore (by decide +kernel) (by decide) (fun M172 => ?_)
    refine sX_dup (by decide +kernel) rfl ?_
    refine sX_iconst (n := 2) (v := (2 : Int32)) (by decide +kernel) (by decide) ?_
    refine sX_bipush (n := 116) (v := (116 : Int32)) (by decide +kernel) (by decide) ?_
    refine sX_castore (by decide +kernel) (by decide) (fun M173 => ?_)
    refine sX_putFR lg_X12_222 rfl tk_12_94 (by decide +kernel) (by decide) (fun M174 => ?_)
    exact sX.le (xB1396 v0 M174) (sLe_s sLe_e)
  have xB1224 : ∀ (v0 : Nat) (M : sMem), sX G l 1 yX12_init cX12_init 1 none M0 r M' 1224 [some (.ref v0)] [] M (f_X12_init_B1224 v0 M) K := by
    intro v0 M
    unfold f_X12_init_B1224
    refine sX_aload_n (i := 0) (by decide +kernel) rfl ?_
    refine sX_iconst (n := 4) (v := (4 : Int32)) (by decide +kernel) (by decide) ?_
    refine sX_newa ak_char (by decide +kernel) (by decide) (fun q175 M176 => ?_)
    refine sX_dup (by decide +kernel) rfl ?_
    refine sX_iconst (n := 0) (v := (0 : Int32)) (by decide +kernel) (by decide) ?_
    refine sX_bipush (n := 108) (v := (108 : Int32)) (by decide +kernel) (by decide) ?_
    refine sX_castore (by decide +kernel) (by decide) (fun M177 => ?_)
    refine sX_dup (by decide +kernel) rfl ?_
    refine sX_iconst (n := 1) (v := (1 : Int32)) (by decide +kernel) (by decide) ?_
    refine sX_bipush (n := 97) (v := (97 : Int32)) (by decide +kernel) (by decide) ?_
    refine sX_castore (by decide +kernel) (by decide) (fun M178 => ?_)
    refine sX_dup (by decide +kernel) rfl ?_
    refine sX_iconst (n := 2) (v := (2 : Int32)) (by decide +kernel) (by decide) ?_
    refine sX_bipush (n := 115) (v := (115 : Int32)) (by decide +kernel) (by decide) ?_
    refine sX_castore (by decide +kernel) (by decide) (fun M179 => ?_)
    refine sX_dup (by decide +kernel) rfl ?_
    refine sX_iconst (n := 3) (v := (3 : Int32)) (by decide +kernel) (by decide) ?_
    refine sX_bipush (n := 116) (v := (116 : Int32)) (by decide +kernel) (by decide) ?_
    refine sX_castore (by decide +kernel) (by decide) (fun M180 => ?_)
    refine sX_putFR lg_X12_207 rfl tk_12_89 (by decide +kernel) (by decide) (fun M181 => ?_)
    refine sX_aload_n (i := 0) (by decide +kernel) rfl ?_
    refine sX_iconst (n := 5) (v := (5 : Int32)) (by decide +kernel) (by decide) ?_
    refine sX_newa ak_char (by decide +kernel) (by decide) (fun q182 M183 => ?_)
    refine sX_dup (by decide +kernel) rfl ?_
    refine sX_iconst (n := 0) (v := (0 : Int32)) (by decide +kernel) (by decide) ?_
    refine sX_bipush (n := 111) (v := (111 : Int32)) (by decide +kernel) (by decide) ?_
    refine sX_castore (by decide +kernel) (by decide) (fun M184 => ?_)
    refine sX_dup (by decide +kernel) rfl ?_
    refine sX_iconst (n := 1) (v := (1 : Int32)) (by decide +kernel) (by decide) ?_
    refine sX_bipush (n := 102) (v := (102 : Int32)) (by decide +kernel) (by decide) ?_
    refine sX_castore (by decide +kernel) (by decide) (fun M185 => ?_)
    refine sX_dup (by decide +kernel) rfl ?_
    refine sX_iconst (n := 2) (v := (2 : Int32)) (by decide +kernel) (by decide) ?_
    refine sX_bipush (n := 116) (v := (116 : Int32)) (by decide +kernel) (by decide) ?_
    refine sX_castore (by decide +kernel) (by decide) (fun M186 => ?_)
    refine sX_dup (by decide +kernel) rfl ?_
    refine sX_iconst (n := 3) (v := (3 : Int32)) (by decide +kernel) (by decide) ?_
    refine sX_bipush (n := 101) (v := (101 : Int32)) (by decide +kernel) (by decide) ?_
    refine sX_castore (by decide +kernel) (by decide) (fun M187 => ?_)
    refine sX_dup (by decide +kernel) rfl ?_
    refine sX_iconst (n := 4) (v := (4 : Int32)) (by decide +kernel) (by decide) ?_
    refine sX_bipush (n := 110) (v := (110 : Int32)) (by decide +kernel) (by decide) ?_
    refine sX_castore (by decide +kernel) (by decide) (fun M188 => ?_)
    refine sX_putFR lg_X12_210 rfl tk_12_90 (by decide +kernel) (by decide) (fun M189 => ?_)
    refine sX_aload_n (i := 0) (by decide +kernel) rfl ?_
    refine sX_iconst (n := 5) (v := (5 : Int32)) (by decide +kernel) (by decide) ?_
    refine sX_newa ak_char (by decide +kernel) (by decide) (fun q190 M191 => ?_)
    refine sX_dup (by decide +kernel) rfl ?_
    refine sX_iconst (n := 0) (v := (0 : Int32)) (by decide +kernel) (by decide) ?_
    refine sX_bipush (n := 116) (v := (116 : Int32)) (by decide +kernel) (by decide) ?_
    refine sX_castore (by decide +kernel) (by decide) (fun M192 => ?_)
    refine sX_dup (by decide +kernel) rfl ?_
    refine sX_iconst (n := 1) (v := (1 : Int32)) (by decide +kernel) (by decide) ?_
    refine sX_bipush (n := 111) (v := (111 : Int32)) (by decide +kernel) (by decide) ?_
    refine sX_castore (by decide +kernel) (by decide) (fun M193 => ?_)
    refine sX_dup (by decide +kernel) rfl ?_
    refine sX_iconst (n := 2) (v := (2 : Int32)) (by decide +kernel) (by decide) ?_
    refine sX_bipush (n := 116) (v := (116 : Int32)) (by decide +kernel) (by decide) ?_
    refine sX_castore (by decide +kernel) (by decide) (fun M194 => ?_)
    refine sX_dup (by decide +kernel) rfl ?_
    refine sX_iconst (n := 3) (v := (3 : Int32)) (by decide +kernel) (by decide) ?_
    refine sX_bipush (n := 97) (v := (97 : Int32)) (by decide +kernel) (by decide) ?_
    refine sX_castore (by decide +kernel) (by decide) (fun M195 => ?_)
    refine sX_dup (by decide +kernel) rfl ?_
    refine sX_iconst (n := 4) (v := (4 : Int32)) (by decide +kernel) (by decide) ?_
    refine sX_bipush (n := 108) (v := (108 : Int32)) (by decide +kernel) (by decide) ?_
    refine sX_castore (by decide +kernel) (by decide) (fun M196 => ?_)
    refine sX_putFR lg_X12_213 rfl tk_12_91 (by decide +kernel) (by decide) (fun M197 => ?_)
    exact sX.le (xB1315 v0 M197) (sLe_s sLe_e)
  have xB1138 : ∀ (v0 : Nat) (M : sMem), sX G l 1 yX12_init cX12_init 1 none M0 r M' 1138 [some (.ref v0)] [] M (f_X12_init_B1138 v0 M) K := by
    intro v0 M
    unfold f_X12_init_B1138
    refine sX_aload_n (i := 0) (by decide +kernel) rfl ?_
    refine sX_bipush (n := 40) (v := (40 : Int32)) (by decide +kernel) (by decide) ?_
    refine sX_newa ak_int (by decide +kernel) (by decide) (fun q198 M199 => ?_)
    refine sX_putFR lg_X12_182 rfl tk_12_77 (by decide +kernel) (by decide) (fun M200 => ?_)
    refine sX_aload_n (i := 0) (by decide +kernel) rfl ?_
    refine sX_bipush (n := 40) (v := (40 : Int32)) (by decide +kernel) (by decide) ?_
    refine sX_newa ak_int (by decide +kernel) (by decide) (fun q201 M202 => ?_)
    refine sX_putFR lg_X12_185 rfl tk_12_78 (by decide +kernel) (by decide) (fun M203 => ?_)
    refine sX_aload_n (i := 0) (by decide +kernel) rfl ?_
    refine sX_bipush (n := 40) (v := (40 : Int32)) (by decide +kernel) (by decide) ?_
    refine sX_newa ak_int (by decide +kernel) (by decide) (fun q204 M205 => ?_)
    refine sX_putFR lg_X12_188 rfl tk_12_79 (by decide +kernel) (by decide) (fun M206 => ?_)
    refine sX_aload_n (i := 0) (by decide +kernel) rfl ?_
    refine sX_bipush (n := 48) (v := (48 : Int32)) (by decide +kernel) (by decide) ?_
    refine sX_newa ak_int (by decide +kernel) (by decide) (fun q207 M208 => ?_)
    refine sX_putFR lg_X12_191 rfl tk_12_81 (by decide +kernel) (by decide) (fun M209 => ?_)
    refine sX_aload_n (i := 0) (by decide +kernel) rfl ?_
    refine sX_bipush (n := 100) (v := (100 : Int32)) (by decide +kernel) (by decide) ?_
    refine sX_newa ak_boolean (by decide +kernel) (by decide) (fun q210 M211 => ?_)
    refine sX_putFR lg_X12_194 rfl tk_12_82 (by decide +kernel) (by decide) (fun M212 => ?_)
    refine sX_aload_n (i := 0) (by decide +kernel) rfl ?_
    refine sX_sipush (n := 2960) (v := (2960 : Int32)) (by decide +kernel) (by decide) ?_
    refine sX_newa ak_int (by decide +kernel) (by decide) (fun q213 M214 => ?_)
    refine sX_putFR lg_X12_197 rfl tk_12_84 (by decide +kernel) (by decide) (fun M215 => ?_)
    refine sX_aload_n (i := 0) (by decide +kernel) rfl ?_
    refine sX_lconst (n := 1) (v := (1 : Int64)) (by decide +kernel) (by decide) ?_
    refine sX_putJ lf_X12_200 tp_12_87 (by decide +kernel) (by decide) (fun M216 => ?_)
    refine sX_aload_n (i := 0) (by decide +kernel) rfl ?_
    refine sX_iconst (n := 5) (v := (5 : Int32)) (by decide +kernel) (by decide) ?_
    refine sX_newa ak_char (by decide +kernel) (by decide) (fun q217 M218 => ?_)
    refine sX_dup (by decide +kernel) rfl ?_
    refine sX_iconst (n := 0) (v := (0 : Int32)) (by decide +kernel) (by decide) ?_
    refine sX_bipush (n := 102) (v := (102 : Int32)) (by decide +kernel) (by decide) ?_
    refine sX_castore (by decide +kernel) (by decide) (fun M219 => ?_)
    refine sX_dup (by decide +kernel) rfl ?_
    refine sX_iconst (n := 1) (v := (1 : Int32)) (by decide +kernel) (by decide) ?_
    refine sX_bipush (n := 105) (v := (105 : Int32)) (by decide +kernel) (by decide) ?_
    refine sX_castore (by decide +kernel) (by decide) (fun M220 => ?_)
    refine sX_dup (by decide +kernel) rfl ?_
    refine sX_iconst (n := 2) (v := (2 : Int32)) (by decide +kernel) (by decide) ?_
    refine sX_bipush (n := 114) (v := (114 : Int32)) (by decide +kernel) (by decide) ?_
    refine sX_castore (by decide +kernel) (by decide) (fun M221 => ?_)
    refine sX_dup (by decide +kernel) rfl ?_
    refine sX_iconst (n := 3) (v := (3 : Int32)) (by decide +kernel) (by decide) ?_
    refine sX_bipush (n := 115) (v := (115 : Int32)) (by decide +kernel) (by decide) ?_
    refine sX_castore (by decide +kernel) (by decide) (fun M222 => ?_)
    refine sX_dup (by decide +kernel) rfl ?_
    refine sX_iconst (n := 4) (v := (4 : Int32)) (by decide +kernel) (by decide) ?_
    refine sX_bipush (n := 116) (v := (116 : Int32)) (by decide +kernel) (by decide) ?_
    refine sX_castore (by decide +kernel) (by decide) (fun M223 => ?_)
    refine sX_putFR lg_X12_204 rfl tk_12_88 (by decide +kernel) (by decide) (fun M224 => ?_)
    exact sX.le (xB1224 v0 M224) (sLe_s sLe_e)
  have xB1036 : ∀ (v0 : Nat) (M : sMem), sX G l 1 yX12_init cX12_init 1 none M0 r M' 1036 [some (.ref v0)] [] M (f_X12_init_B1036 v0 M) K := by
    intro v0 M
    unfold f_X12_init_B1036
    refine sX_aload_n (i := 0) (by decide +kernel) rfl ?_
    refine sX_bipush (n := 6) (v := (6 : Int32)) (by decide +kernel) (by decide) ?_
    refine sX_newa ak_int (by decide +kernel) (by decide) (fun q225 M226 => ?_)
    refine sX_putFR lg_X12_145 rfl tk_12_53 (by decide +kernel) (by decide) (fun M227 => ?_)
    refine sX_aload_n (i := 0) (by decide +kernel) rfl ?_
    refine sX_sipush (n := 3200) (v := (3200 : Int32)) (by decide +kernel) (by decide) ?_
    refine sX_newa ak_int (by decide +kernel) (by decide) (fun q228 M229 => ?_)
    refine sX_putFR lg_X12_148 rfl tk_12_54 (by decide +kernel) (by decide) (fun M230 => ?_)
    refine sX_aload_n (i := 0) (by decide +kernel) rfl ?_
    refine sX_sipush (n := 148) (v := (148 : Int32)) (by decide +kernel) (by decide) ?_
    refine sX_newa ak_int (by decide +kernel) (by decide) (fun q231 M232 => ?_)
    refine sX_putFR lg_X12_151 rfl tk_12_59 (by decide +kernel) (by decide) (fun M233 => ?_)
    refine sX_aload_n (i := 0) (by decide +kernel) rfl ?_
    refine sX_bipush (n := 27) (v := (27 : Int32)) (by decide +kernel) (by decide) ?_
    refine sX_newa ak_int (by decide +kernel) (by decide) (fun q234 M235 => ?_)
    refine sX_putFR lg_X12_154 rfl tk_12_60 (by decide +kernel) (by decide) (fun M236 => ?_)
    refine sX_aload_n (i := 0) (by decide +kernel) rfl ?_
    refine sX_iconst (n := 5) (v := (5 : Int32)) (by decide +kernel) (by decide) ?_
    refine sX_newa ak_int (by decide +kernel) (by decide) (fun q237 M238 => ?_)
    refine sX_putFR lg_X12_157 rfl tk_12_66 (by decide +kernel) (by decide) (fun M239 => ?_)
    refine sX_aload_n (i := 0) (by decide +kernel) rfl ?_
    refine sX_bipush (n := 35) (v := (35 : Int32)) (by decide +kernel) (by decide) ?_
    refine sX_newa ak_int (by decide +kernel) (by decide) (fun q240 M241 => ?_)
    refine sX_putFR lg_X12_160 rfl tk_12_67 (by decide +kernel) (by decide) (fun M242 => ?_)
    refine sX_aload_n (i := 0) (by decide +kernel) rfl ?_
    refine sX_sipush (n := 1200) (v := (1200 : Int32)) (by decide +kernel) (by decide) ?_
    refine sX_newa ak_boolean (by decide +kernel) (by decide) (fun q243 M244 => ?_)
    refine sX_putFR lg_X12_163 rfl tk_12_68 (by decide +kernel) (by decide) (fun M245 => ?_)
    refine sX_aload_n (i := 0) (by decide +kernel) rfl ?_
    refine sX_sipush (n := 1400) (v := (1400 : Int32)) (by decide +kernel) (by decide) ?_
    refine sX_newa ak_boolean (by decide +kernel) (by decide) (fun q246 M247 => ?_)
    refine sX_putFR lg_X12_167 rfl tk_12_69 (by decide +kernel) (by decide) (fun M248 => ?_)
    refine sX_aload_n (i := 0) (by decide +kernel) rfl ?_
    refine sX_sipush (n := 600) (v := (600 : Int32)) (by decide +kernel) (by decide) ?_
    refine sX_newa ak_int (by decide +kernel) (by decide) (fun q249 M250 => ?_)
    refine sX_putFR lg_X12_170 rfl tk_12_73 (by decide +kernel) (by decide) (fun M251 => ?_)
    refine sX_aload_n (i := 0) (by decide +kernel) rfl ?_
    refine sX_sipush (n := 600) (v := (600 : Int32)) (by decide +kernel) (by decide) ?_
    refine sX_newa ak_int (by decide +kernel) (by decide) (fun q252 M253 => ?_)
    refine sX_putFR lg_X12_173 rfl tk_12_74 (by decide +kernel) (by decide) (fun M254 => ?_)
    refine sX_aload_n (i := 0) (by decide +kernel) rfl ?_
    refine sX_sipush (n := 600) (v := (600 : Int32)) (by decide +kernel) (by decide) ?_
    refine sX_newa ak_int (by decide +kernel) (by decide) (fun q255 M256 => ?_)
    refine sX_putFR lg_X12_176 rfl tk_12_75 (by decide +kernel) (by decide) (fun M257 => ?_)
    refine sX_aload_n (i := 0) (by decide +kernel) rfl ?_
    refine sX_bipush (n := 40) (v := (40 : Int32)) (by decide +kernel) (by decide) ?_
    refine sX_newa ak_int (by decide +kernel) (by decide) (fun q258 M259 => ?_)
    refine sX_putFR lg_X12_179 rfl tk_12_76 (by decide +kernel) (by decide) (fun M260 => ?_)
    exact sX.le (xB1138 v0 M260) (sLe_s sLe_e)
  have xB927 : ∀ (v0 : Nat) (M : sMem), sX G l 1 yX12_init cX12_init 1 none M0 r M' 927 [some (.ref v0)] [] M (f_X12_init_B927 v0 M) K := by
    intro v0 M
    unfold f_X12_init_B927
    refine sX_aload_n (i := 0) (by decide +kernel) rfl ?_
    refine sX_iconst (n := 3) (v := (3 : Int32)) (by decide +kernel) (by decide) ?_
    refine sX_newa ak_char (by decide +kernel) (by decide) (fun q261 M262 => ?_)
    refine sX_dup (by decide +kernel) rfl ?_
    refine sX_iconst (n := 0) (v := (0 : Int32)) (by decide +kernel) (by decide) ?_
    refine sX_bipush (n := 109) (v := (109 : Int32)) (by decide +kernel) (by decide) ?_
    refine sX_castore (by decide +kernel) (by decide) (fun M263 => ?_)
    refine sX_dup (by decide +kernel) rfl ?_
    refine sX_iconst (n := 1) (v := (1 : Int32)) (by decide +kernel) (by decide) ?_
    refine sX_bipush (n := 97) (v := (97 : Int32)) (by decide +kernel) (by decide) ?_
    refine sX_castore (by decide +kernel) (by decide) (fun M264 => ?_)
    refine sX_dup (by decide +kernel) rfl ?_
    refine sX_iconst (n := 2) (v := (2 : Int32)) (by decide +kernel) (by decide) ?_
    refine sX_bipush (n := 120) (v := (120 : Int32)) (by decide +kernel) (by decide) ?_
    refine sX_castore (by decide +kernel) (by decide) (fun M265 => ?_)
    refine sX_putFR lg_X12_117 rfl tk_12_43 (by decide +kernel) (by decide) (fun M266 => ?_)
    refine sX_aload_n (i := 0) (by decide +kernel) rfl ?_
    refine sX_iconst (n := 4) (v := (4 : Int32)) (by decide +kernel) (by decide) ?_
    refine sX_newa ak_int (by decide +kernel) (by decide) (fun q267 M268 => ?_)
    refine sX_putFR lg_X12_120 rfl tk_12_45 (by decide +kernel) (by decide) (fun M269 => ?_)
    refine sX_aload_n (i := 0) (by decide +kernel) rfl ?_
    refine sX_bipush (n := 10) (v := (10 : Int32)) (by decide +kernel) (by decide) ?_
    refine sX_newa ak_int (by decide +kernel) (by decide) (fun q270 M271 => ?_)
    refine sX_putFR lg_X12_123 rfl tk_12_46 (by decide +kernel) (by decide) (fun M272 => ?_)
    refine sX_aload_n (i := 0) (by decide +kernel) rfl ?_
    refine sX_bipush (n := 64) (v := (64 : Int32)) (by decide +kernel) (by decide) ?_
    refine sX_newa ak_long (by decide +kernel) (by decide) (fun q273 M274 => ?_)
    refine sX_putFR lg_X12_126 rfl tk_12_47 (by decide +kernel) (by decide) (fun M275 => ?_)
    refine sX_aload_n (i := 0) (by decide +kernel) rfl ?_
    refine sX_bipush (n := 12) (v := (12 : Int32)) (by decide +kernel) (by decide) ?_
    refine sX_newa ak_int (by decide +kernel) (by decide) (fun q276 M277 => ?_)
    refine sX_putFR lg_X12_130 rfl tk_12_48 (by decide +kernel) (by decide) (fun M278 => ?_)
    refine sX_aload_n (i := 0) (by decide +kernel) rfl ?_
    refine sX_bipush (n := 96) (v := (96 : Int32)) (by decide +kernel) (by decide) ?_
    refine sX_newa ak_int (by decide +kernel) (by decide) (fun q279 M280 => ?_)
    refine sX_putFR lg_X12_133 rfl tk_12_49 (by decide +kernel) (by decide) (fun M281 => ?_)
    refine sX_aload_n (i := 0) (by decide +kernel) rfl ?_
    refine sX_bipush (n := 30) (v := (30 : Int32)) (by decide +kernel) (by decide) ?_
    refine sX_newa ak_int (by decide +kernel) (by decide) (fun q282 M283 => ?_)
    refine sX_putFR lg_X12_136 rfl tk_12_50 (by decide +kernel) (by decide) (fun M284 => ?_)
    refine sX_aload_n (i := 0) (by decide +kernel) rfl ?_
    refine sX_bipush (n := 30) (v := (30 : Int32)) (by decide +kernel) (by decide) ?_
    refine sX_newa ak_int (by decide +kernel) (by decide) (fun q285 M286 => ?_)
    refine sX_putFR lg_X12_139 rfl tk_12_51 (by decide +kernel) (by decide) (fun M287 => ?_)
    refine sX_aload_n (i := 0) (by decide +kernel) rfl ?_
    refine sX_bipush (n := 6) (v := (6 : Int32)) (by decide +kernel) (by decide) ?_
    refine sX_newa ak_int (by decide +kernel) (by decide) (fun q288 M289 => ?_)
    refine sX_dup (by decide +kernel) rfl ?_
    refine sX_iconst (n := 0) (v := (0 : Int32)) (by decide +kernel) (by decide) ?_
    refine sX_iconst (n := -1) (v := (-1 : Int32)) (by decide +kernel) (by decide) ?_
    refine sX_iastore (by decide +kernel) (by decide) (fun M290 => ?_)
    refine sX_dup (by decide +kernel) rfl ?_
    refine sX_iconst (n := 1) (v := (1 : Int32)) (by decide +kernel) (by decide) ?_
    refine sX_iconst (n := -1) (v := (-1 : Int32)) (by decide +kernel) (by decide) ?_
    refine sX_iastore (by decide +kernel) (by decide) (fun M291 => ?_)
    refine sX_dup (by decide +kernel) rfl ?_
    refine sX_iconst (n := 2) (v := (2 : Int32)) (by decide +kernel) (by decide) ?_
    refine sX_iconst (n := -1) (v := (-1 : Int32)) (by decide +kernel) (by decide) ?_
    refine sX_iastore (by decide +kernel) (by decide) (fun M292 => ?_)
    refine sX_dup (by decide +kernel) rfl ?_
    refine sX_iconst (n := 3) (v := (3 : Int32)) (by decide +kernel) (by decide) ?_
    refine sX_iconst (n := -1) (v := (-1 : Int32)) (by decide +kernel) (by decide) ?_
    refine sX_iastore (by decide +kernel) (by decide) (fun M293 => ?_)
    refine sX_dup (by decide +kernel) rfl ?_
    refine sX_iconst (n := 4) (v := (4 : Int32)) (by decide +kernel) (by decide) ?_
    refine sX_iconst (n := -1) (v := (-1 : Int32)) (by decide +kernel) (by decide) ?_
    refine sX_iastore (by decide +kernel) (by decide) (fun M294 => ?_)
    refine sX_dup (by decide +kernel) rfl ?_
    refine sX_iconst (n := 5) (v := (5 : Int32)) (by decide +kernel) (by decide) ?_
    refine sX_iconst (n := -1) (v := (-1 : Int32)) (by decide +kernel) (by decide) ?_
    refine sX_iastore (by decide +kernel) (by decide) (fun M295 => ?_)
    refine sX_putFR lg_X12_142 rfl tk_12_52 (by decide +kernel) (by decide) (fun M296 => ?_)
    exact sX.le (xB1036 v0 M296) (sLe_s sLe_e)
  have xB861 : ∀ (v0 : Nat) (M : sMem), sX G l 1 yX12_init cX12_init 1 none M0 r M' 861 [some (.ref v0)] [] M (f_X12_init_B861 v0 M) K := by
    intro v0 M
    unfold f_X12_init_B861
    refine sX_aload_n (i := 0) (by decide +kernel) rfl ?_
    refine sX_iconst (n := 3) (v := (3 : Int32)) (by decide +kernel) (by decide) ?_
    refine sX_newa ak_char (by decide +kernel) (by decide) (fun q297 M298 => ?_)
    refine sX_dup (by decide +kernel) rfl ?_
    refine sX_iconst (n := 0) (v := (0 : Int32)) (by decide +kernel) (by decide) ?_
    refine sX_bipush (n := 110) (v := (110 : Int32)) (by decide +kernel) (by decide) ?_
    refine sX_castore (by decide +kernel) (by decide) (fun M299 => ?_)
    refine sX_dup (by decide +kernel) rfl ?_
    refine sX_iconst (n := 1) (v := (1 : Int32)) (by decide +kernel) (by decide) ?_
    refine sX_bipush (n := 111) (v := (111 : Int32)) (by decide +kernel) (by decide) ?_
    refine sX_castore (by decide +kernel) (by decide) (fun M300 => ?_)
    refine sX_dup (by decide +kernel) rfl ?_
    refine sX_iconst (n := 2) (v := (2 : Int32)) (by decide +kernel) (by decide) ?_
    refine sX_bipush (n := 116) (v := (116 : Int32)) (by decide +kernel) (by decide) ?_
    refine sX_castore (by decide +kernel) (by decide) (fun M301 => ?_)
    refine sX_putFR lg_X12_108 rfl tk_12_40 (by decide +kernel) (by decide) (fun M302 => ?_)
    refine sX_aload_n (i := 0) (by decide +kernel) rfl ?_
    refine sX_iconst (n := 3) (v := (3 : Int32)) (by decide +kernel) (by decide) ?_
    refine sX_newa ak_char (by decide +kernel) (by decide) (fun q303 M304 => ?_)
    refine sX_dup (by decide +kernel) rfl ?_
    refine sX_iconst (n := 0) (v := (0 : Int32)) (by decide +kernel) (by decide) ?_
    refine sX_bipush (n := 97) (v := (97 : Int32)) (by decide +kernel) (by decide) ?_
    refine sX_castore (by decide +kernel) (by decide) (fun M305 => ?_)
    refine sX_dup (by decide +kernel) rfl ?_
    refine sX_iconst (n := 1) (v := (1 : Int32)) (by decide +kernel) (by decide) ?_
    refine sX_bipush (n := 108) (v := (108 : Int32)) (by decide +kernel) (by decide) ?_
    refine sX_castore (by decide +kernel) (by decide) (fun M306 => ?_)
    refine sX_dup (by decide +kernel) rfl ?_
    refine sX_iconst (n := 2) (v := (2 : Int32)) (by decide +kernel) (by decide) ?_
    refine sX_bipush (n := 108) (v := (108 : Int32)) (by decide +kernel) (by decide) ?_
    refine sX_castore (by decide +kernel) (by decide) (fun M307 => ?_)
    refine sX_putFR lg_X12_111 rfl tk_12_41 (by decide +kernel) (by decide) (fun M308 => ?_)
    refine sX_aload_n (i := 0) (by decide +kernel) rfl ?_
    refine sX_iconst (n := 3) (v := (3 : Int32)) (by decide +kernel) (by decide) ?_
    refine sX_newa ak_char (by decide +kernel) (by decide) (fun q309 M310 => ?_)
    refine sX_dup (by decide +kernel) rfl ?_
    refine sX_iconst (n := 0) (v := (0 : Int32)) (by decide +kernel) (by decide) ?_
    refine sX_bipush (n := 109) (v := (109 : Int32)) (by decide +kernel) (by decide) ?_
    refine sX_castore (by decide +kernel) (by decide) (fun M311 => ?_)
    refine sX_dup (by decide +kernel) rfl ?_
    refine sX_iconst (n := 1) (v := (1 : Int32)) (by decide +kernel) (by decide) ?_
    refine sX_bipush (n := 105) (v := (105 : Int32)) (by decide +kernel) (by decide) ?_
    refine sX_castore (by decide +kernel) (by decide) (fun M312 => ?_)
    refine sX_dup (by decide +kernel) rfl ?_
    refine sX_iconst (n := 2) (v := (2 : Int32)) (by decide +kernel) (by decide) ?_
    refine sX_bipush (n := 110) (v := (110 : Int32)) (by decide +kernel) (by decide) ?_
    refine sX_castore (by decide +kernel) (by decide) (fun M313 => ?_)
    refine sX_putFR lg_X12_114 rfl tk_12_42 (by decide +kernel) (by decide) (fun M314 => ?_)
    exact sX.le (xB927 v0 M314) (sLe_s sLe_e)
  have xB790 : ∀ (v0 : Nat) (M : sMem), sX G l 1 yX12_init cX12_init 1 none M0 r M' 790 [some (.ref v0)] [] M (f_X12_init_B790 v0 M) K := by
    intro v0 M
    unfold f_X12_init_B790
    refine sX_aload_n (i := 0) (by decide +kernel) rfl ?_
    refine sX_iconst (n := 5) (v := (5 : Int32)) (by decide +kernel) (by decide) ?_
    refine sX_newa ak_char (by decide +kernel) (by decide) (fun q315 M316 => ?_)
    refine sX_dup (by decide +kernel) rfl ?_
    refine sX_iconst (n := 0) (v := (0 : Int32)) (by decide +kernel) (by decide) ?_
    refine sX_bipush (n := 100) (v := (100 : Int32)) (by decide +kernel) (by decide) ?_
    refine sX_castore (by decide +kernel) (by decide) (fun M317 => ?_)
    refine sX_dup (by decide +kernel) rfl ?_
    refine sX_iconst (n := 1) (v := (1 : Int32)) (by decide +kernel) (by decide) ?_
    refine sX_bipush (n := 114) (v := (114 : Int32)) (by decide +kernel) (by decide) ?_
    refine sX_castore (by decide +kernel) (by decide) (fun M318 => ?_)
    refine sX_dup (by decide +kernel) rfl ?_
    refine sX_iconst (n := 2) (v := (2 : Int32)) (by decide +kernel) (by decide) ?_
    refine sX_bipush (n := 105) (v := (105 : Int32)) (by decide +kernel) (by decide) ?_
    refine sX_castore (by decide +kernel) (by decide) (fun M319 => ?_)
    refine sX_dup (by decide +kernel) rfl ?_
    refine sX_iconst (n := 3) (v := (3 : Int32)) (by decide +kernel) (by decide) ?_
    refine sX_bipush (n := 118) (v := (118 : Int32)) (by decide +kernel) (by decide) ?_
    refine sX_castore (by decide +kernel) (by decide) (fun M320 => ?_)
    refine sX_dup (by decide +kernel) rfl ?_
    refine sX_iconst (n := 4) (v := (4 : Int32)) (by decide +kernel) (by decide) ?_
    refine sX_bipush (n := 101) (v := (101 : Int32)) (by decide +kernel) (by decide) ?_
    refine sX_castore (by decide +kernel) (by decide) (fun M321 => ?_)
    refine sX_putFR lg_X12_99 rfl tk_12_37 (by decide +kernel) (by decide) (fun M322 => ?_)
    refine sX_aload_n (i := 0) (by decide +kernel) rfl ?_
    refine sX_iconst (n := 2) (v := (2 : Int32)) (by decide +kernel) (by decide) ?_
    refine sX_newa ak_char (by decide +kernel) (by decide) (fun q323 M324 => ?_)
    refine sX_dup (by decide +kernel) rfl ?_
    refine sX_iconst (n := 0) (v := (0 : Int32)) (by decide +kernel) (by decide) ?_
    refine sX_bipush (n := 111) (v := (111 : Int32)) (by decide +kernel) (by decide) ?_
    refine sX_castore (by decide +kernel) (by decide) (fun M325 => ?_)
    refine sX_dup (by decide +kernel) rfl ?_
    refine sX_iconst (n := 1) (v := (1 : Int32)) (by decide +kernel) (by decide) ?_
    refine sX_bipush (n := 114) (v := (114 : Int32)) (by decide +kernel) (by decide) ?_
    refine sX_castore (by decide +kernel) (by decide) (fun M326 => ?_)
    refine sX_putFR lg_X12_102 rfl tk_12_38 (by decide +kernel) (by decide) (fun M327 => ?_)
    refine sX_aload_n (i := 0) (by decide +kernel) rfl ?_
    refine sX_iconst (n := 3) (v := (3 : Int32)) (by decide +kernel) (by decide) ?_
    refine sX_newa ak_char (by decide +kernel) (by decide) (fun q328 M329 => ?_)
    refine sX_dup (by decide +kernel) rfl ?_
    refine sX_iconst (n := 0) (v := (0 : Int32)) (by decide +kernel) (by decide) ?_
    refine sX_bipush (n := 97) (v := (97 : Int32)) (by decide +kernel) (by decide) ?_
    refine sX_castore (by decide +kernel) (by decide) (fun M330 => ?_)
    refine sX_dup (by decide +kernel) rfl ?_
    refine sX_iconst (n := 1) (v := (1 : Int32)) (by decide +kernel) (by decide) ?_
    refine sX_bipush (n := 110) (v := (110 : Int32)) (by decide +kernel) (by decide) ?_
    refine sX_castore (by decide +kernel) (by decide) (fun M331 => ?_)
    refine sX_dup (by decide +kernel) rfl ?_
    refine sX_iconst (n := 2) (v := (2 : Int32)) (by decide +kernel) (by decide) ?_
    refine sX_bipush (n := 100) (v := (100 : Int32)) (by decide +kernel) (by decide) ?_
    refine sX_castore (by decide +kernel) (by decide) (fun M332 => ?_)
    refine sX_putFR lg_X12_105 rfl tk_12_39 (by decide +kernel) (by decide) (fun M333 => ?_)
    exact sX.le (xB861 v0 M333) (sLe_s sLe_e)
  have xB714 : ∀ (v0 : Nat) (M : sMem), sX G l 1 yX12_init cX12_init 1 none M0 r M' 714 [some (.ref v0)] [] M (f_X12_init_B714 v0 M) K := by
    intro v0 M
    unfold f_X12_init_B714
    refine sX_aload_n (i := 0) (by decide +kernel) rfl ?_
    refine sX_bipush (n := 6) (v := (6 : Int32)) (by decide +kernel) (by decide) ?_
    refine sX_newa ak_char (by decide +kernel) (by decide) (fun q334 M335 => ?_)
    refine sX_dup (by decide +kernel) rfl ?_
    refine sX_iconst (n := 0) (v := (0 : Int32)) (by decide +kernel) (by decide) ?_
    refine sX_bipush (n := 110) (v := (110 : Int32)) (by decide +kernel) (by decide) ?_
    refine sX_castore (by decide +kernel) (by decide) (fun M336 => ?_)
    refine sX_dup (by decide +kernel) rfl ?_
    refine sX_iconst (n := 1) (v := (1 : Int32)) (by decide +kernel) (by decide) ?_
    refine sX_bipush (n := 117) (v := (117 : Int32)) (by decide +kernel) (by decide) ?_
    refine sX_castore (by decide +kernel) (by decide) (fun M337 => ?_)
    refine sX_dup (by decide +kernel) rfl ?_
    refine sX_iconst (n := 2) (v := (2 : Int32)) (by decide +kernel) (by decide) ?_
    refine sX_bipush (n := 109) (v := (109 : Int32)) (by decide +kernel) (by decide) ?_
    refine sX_castore (by decide +kernel) (by decide) (fun M338 => ?_)
    refine sX_dup (by decide +kernel) rfl ?_
    refine sX_iconst (n := 3) (v := (3 : Int32)) (by decide +kernel) (by decide) ?_
    refine sX_bipush (n := 98) (v := (98 : Int32)) (by decide +kernel) (by decide) ?_
    refine sX_castore (by decide +kernel) (by decide) (fun M339 => ?_)
    refine sX_dup (by decide +kernel) rfl ?_
    refine sX_iconst (n := 4) (v := (4 : Int32)) (by decide +kernel) (by decide) ?_
    refine sX_bipush (n := 101) (v := (101 : Int32)) (by decide +kernel) (by decide) ?_
    refine sX_castore (by decide +kernel) (by decide) (fun M340 => ?_)
    refine sX_dup (by decide +kernel) rfl ?_
    refine sX_iconst (n := 5) (v := (5 : Int32)) (by decide +kernel) (by decide) ?_
    refine sX_bipush (n := 114) (v := (114 : Int32)) (by decide +kernel) (by decide) ?_
    refine sX_castore (by decide +kernel) (by decide) (fun M341 => ?_)
    refine sX_putFR lg_X12_93 rfl tk_12_35 (by decide +kernel) (by decide) (fun M342 => ?_)
    refine sX_aload_n (i := 0) (by decide +kernel) rfl ?_
    refine sX_bipush (n := 6) (v := (6 : Int32)) (by decide +kernel) (by decide) ?_
    refine sX_newa ak_char (by decide +kernel) (by decide) (fun q343 M344 => ?_)
    refine sX_dup (by decide +kernel) rfl ?_
    refine sX_iconst (n := 0) (v := (0 : Int32)) (by decide +kernel) (by decide) ?_
    refine sX_bipush (n := 99) (v := (99 : Int32)) (by decide +kernel) (by decide) ?_
    refine sX_castore (by decide +kernel) (by decide) (fun M345 => ?_)
    refine sX_dup (by decide +kernel) rfl ?_
    refine sX_iconst (n := 1) (v := (1 : Int32)) (by decide +kernel) (by decide) ?_
    refine sX_bipush (n := 108) (v := (108 : Int32)) (by decide +kernel) (by decide) ?_
    refine sX_castore (by decide +kernel) (by decide) (fun M346 => ?_)
    refine sX_dup (by decide +kernel) rfl ?_
    refine sX_iconst (n := 2) (v := (2 : Int32)) (by decide +kernel) (by decide) ?_
    refine sX_bipush (n := 111) (v := (111 : Int32)) (by decide +kernel) (by decide) ?_
    refine sX_castore (by decide +kernel) (by decide) (fun M347 => ?_)
    refine sX_dup (by decide +kernel) rfl ?_
    refine sX_iconst (n := 3) (v := (3 : Int32)) (by decide +kernel) (by decide) ?_
    refine sX_bipush (n := 115) (v := (115 : Int32)) (by decide +kernel) (by decide) ?_
    refine sX_castore (by decide +kernel) (by decide) (fun M348 => ?_)
    refine sX_dup (by decide +kernel) rfl ?_
    refine sX_iconst (n := 4) (v := (4 : Int32)) (by decide +kernel) (by decide) ?_
    refine sX_bipush (n := 101) (v := (101 : Int32)) (by decide +kernel) (by decide) ?_
    refine sX_castore (by decide +kernel) (by decide) (fun M349 => ?_)
    refine sX_dup (by decide +kernel) rfl ?_
    refine sX_iconst (n := 5) (v := (5 : Int32)) (by decide +kernel) (by decide) ?_
    refine sX_bipush (n := 100) (v := (100 : Int32)) (by decide +kernel) (by decide) ?_
    refine sX_castore (by decide +kernel) (by decide) (fun M350 => ?_)
    refine sX_putFR lg_X12_96 rfl tk_12_36 (by decide +kernel) (by decide) (fun M351 => ?_)
    exact sX.le (xB790 v0 M351) (sLe_s sLe_e)
  have xB628 : ∀ (v0 : Nat) (M : sMem), sX G l 1 yX12_init cX12_init 1 none M0 r M' 628 [some (.ref v0)] [] M (f_X12_init_B628 v0 M) K := by
    intro v0 M
    unfold f_X12_init_B628
    refine sX_aload_n (i := 0) (by decide +kernel) rfl ?_
    refine sX_iconst (n := 3) (v := (3 : Int32)) (by decide +kernel) (by decide) ?_
    refine sX_newa ak_char (by decide +kernel) (by decide) (fun q352 M353 => ?_)
    refine sX_dup (by decide +kernel) rfl ?_
    refine sX_iconst (n := 0) (v := (0 : Int32)) (by decide +kernel) (by decide) ?_
    refine sX_bipush (n := 100) (v := (100 : Int32)) (by decide +kernel) (by decide) ?_
    refine sX_castore (by decide +kernel) (by decide) (fun M354 => ?_)
    refine sX_dup (by decide +kernel) rfl ?_
    refine sX_iconst (n := 1) (v := (1 : Int32)) (by decide +kernel) (by decide) ?_
    refine sX_bipush (n := 97) (v := (97 : Int32)) (by decide +kernel) (by decide) ?_
    refine sX_castore (by decide +kernel) (by decide) (fun M355 => ?_)
    refine sX_dup (by decide +kernel) rfl ?_
    refine sX_iconst (n := 2) (v := (2 : Int32)) (by decide +kernel) (by decide) ?_
    refine sX_bipush (n := 121) (v := (121 : Int32)) (by decide +kernel) (by decide) ?_
    refine sX_castore (by decide +kernel) (by decide) (fun M356 => ?_)
    refine sX_putFR lg_X12_84 rfl tk_12_32 (by decide +kernel) (by decide) (fun M357 => ?_)
    refine sX_aload_n (i := 0) (by decide +kernel) rfl ?_
    refine sX_iconst (n := 5) (v := (5 : Int32)) (by decide +kernel) (by decide) ?_
    refine sX_newa ak_char (by decide +kernel) (by decide) (fun q358 M359 => ?_)
    refine sX_dup (by decide +kernel) rfl ?_
    refine sX_iconst (n := 0) (v := (0 : Int32)) (by decide +kernel) (by decide) ?_
    refine sX_bipush (n := 119) (v := (119 : Int32)) (by decide +kernel) (by decide) ?_
    refine sX_castore (by decide +kernel) (by decide) (fun M360 => ?_)
    refine sX_dup (by decide +kernel) rfl ?_
    refine sX_iconst (n := 1) (v := (1 : Int32)) (by decide +kernel) (by decide) ?_
    refine sX_bipush (n := 97) (v := (97 : Int32)) (by decide +kernel) (by decide) ?_
    refine sX_castore (by decide +kernel) (by decide) (fun M361 => ?_)
    refine sX_dup (by decide +kernel) rfl ?_
    refine sX_iconst (n := 2) (v := (2 : Int32)) (by decide +kernel) (by decide) ?_
    refine sX_bipush (n := 105) (v := (105 : Int32)) (by decide +kernel) (by decide) ?_
    refine sX_castore (by decide +kernel) (by decide) (fun M362 => ?_)
    refine sX_dup (by decide +kernel) rfl ?_
    refine sX_iconst (n := 3) (v := (3 : Int32)) (by decide +kernel) (by decide) ?_
    refine sX_bipush (n := 116) (v := (116 : Int32)) (by decide +kernel) (by decide) ?_
    refine sX_castore (by decide +kernel) (by decide) (fun M363 => ?_)
    refine sX_dup (by decide +kernel) rfl ?_
    refine sX_iconst (n := 4) (v := (4 : Int32)) (by decide +kernel) (by decide) ?_
    refine sX_bipush (n := 115) (v := (115 : Int32)) (by decide +kernel) (by decide) ?_
    refine sX_castore (by decide +kernel) (by decide) (fun M364 => ?_)
    refine sX_putFR lg_X12_87 rfl tk_12_33 (by decide +kernel) (by decide) (fun M365 => ?_)
    refine sX_aload_n (i := 0) (by decide +kernel) rfl ?_
    refine sX_iconst (n := 5) (v := (5 : Int32)) (by decide +kernel) (by decide) ?_
    refine sX_newa ak_char (by decide +kernel) (by decide) (fun q366 M367 => ?_)
    refine sX_dup (by decide +kernel) rfl ?_
    refine sX_iconst (n := 0) (v := (0 : Int32)) (by decide +kernel) (by decide) ?_
    refine sX_bipush (n := 107) (v := (107 : Int32)) (by decide +kernel) (by decide) ?_
    refine sX_castore (by decide +kernel) (by decide) (fun M368 => ?_)
    refine sX_dup (by decide +kernel) rfl ?_
    refine sX_iconst (n := 1) (v := (1 : Int32)) (by decide +kernel) (by decide) ?_
    refine sX_bipush (n := 110) (v := (110 : Int32)) (by decide +kernel) (by decide) ?_
    refine sX_castore (by decide +kernel) (by decide) (fun M369 => ?_)
    refine sX_dup (by decide +kernel) rfl ?_
    refine sX_iconst (n := 2) (v := (2 : Int32)) (by decide +kernel) (by decide) ?_
    refine sX_bipush (n := 111) (v := (111 : Int32)) (by decide +kernel) (by decide) ?_
    refine sX_castore (by decide +kernel) (by decide) (fun M370 => ?_)
    refine sX_dup (by decide +kernel) rfl ?_
    refine sX_iconst (n := 3) (v := (3 : Int32)) (by decide +kernel) (by decide) ?_
    refine sX_bipush (n := 119) (v := (119 : Int32)) (by decide +kernel) (by decide) ?_
    refine sX_castore (by decide +kernel) (by decide) (fun M371 => ?_)
    refine sX_dup (by decide +kernel) rfl ?_
    refine sX_iconst (n := 4) (v := (4 : Int32)) (by decide +kernel) (by decide) ?_
    refine sX_bipush (n := 115) (v := (115 : Int32)) (by decide +kernel) (by decide) ?_
    refine sX_castore (by decide +kernel) (by decide) (fun M372 => ?_)
    refine sX_putFR lg_X12_90 rfl tk_12_34 (by decide +kernel) (by decide) (fun M373 => ?_)
    exact sX.le (xB714 v0 M373) (sLe_s sLe_e)
  have xB552 : ∀ (v0 : Nat) (M : sMem), sX G l 1 yX12_init cX12_init 1 none M0 r M' 552 [some (.ref v0)] [] M (f_X12_init_B552 v0 M) K := by
    intro v0 M
    unfold f_X12_init_B552
    refine sX_aload_n (i := 0) (by decide +kernel) rfl ?_
    refine sX_bipush (n := 6) (v := (6 : Int32)) (by decide +kernel) (by decide) ?_
    refine sX_newa ak_char (by decide +kernel) (by decide) (fun q374 M375 => ?_)
    refine sX_dup (by decide +kernel) rfl ?_
    refine sX_iconst (n := 0) (v := (0 : Int32)) (by decide +kernel) (by decide) ?_
    refine sX_bipush (n := 98) (v := (98 : Int32)) (by decide +kernel) (by decide) ?_
    refine sX_castore (by decide +kernel) (by decide) (fun M376 => ?_)
    refine sX_dup (by decide +kernel) rfl ?_
    refine sX_iconst (n := 1) (v := (1 : Int32)) (by decide +kernel) (by decide) ?_
    refine sX_bipush (n := 101) (v := (101 : Int32)) (by decide +kernel) (by decide) ?_
    refine sX_castore (by decide +kernel) (by decide) (fun M377 => ?_)
    refine sX_dup (by decide +kernel) rfl ?_
    refine sX_iconst (n := 2) (v := (2 : Int32)) (by decide +kernel) (by decide) ?_
    refine sX_bipush (n := 104) (v := (104 : Int32)) (by decide +kernel) (by decide) ?_
    refine sX_castore (by decide +kernel) (by decide) (fun M378 => ?_)
    refine sX_dup (by decide +kernel) rfl ?_
    refine sX_iconst (n := 3) (v := (3 : Int32)) (by decide +kernel) (by decide) ?_
    refine sX_bipush (n := 105) (v := (105 : Int32)) (by decide +kernel) (by decide) ?_
    refine sX_castore (by decide +kernel) (by decide) (fun M379 => ?_)
    refine sX_dup (by decide +kernel) rfl ?_
    refine sX_iconst (n := 4) (v := (4 : Int32)) (by decide +kernel) (by decide) ?_
    refine sX_bipush (n := 110) (v := (110 : Int32)) (by decide +kernel) (by decide) ?_
    refine sX_castore (by decide +kernel) (by decide) (fun M380 => ?_)
    refine sX_dup (by decide +kernel) rfl ?_
    refine sX_iconst (n := 5) (v := (5 : Int32)) (by decide +kernel) (by decide) ?_
    refine sX_bipush (n := 100) (v := (100 : Int32)) (by decide +kernel) (by decide) ?_
    refine sX_castore (by decide +kernel) (by decide) (fun M381 => ?_)
    refine sX_putFR lg_X12_78 rfl tk_12_30 (by decide +kernel) (by decide) (fun M382 => ?_)
    refine sX_aload_n (i := 0) (by decide +kernel) rfl ?_
    refine sX_bipush (n := 6) (v := (6 : Int32)) (by decide +kernel) (by decide) ?_
    refine sX_newa ak_char (by decide +kernel) (by decide) (fun q383 M384 => ?_)
    refine sX_dup (by decide +kernel) rfl ?_
    refine sX_iconst (n := 0) (v := (0 : Int32)) (by decide +kernel) (by decide) ?_
    refine sX_bipush (n := 109) (v := (109 : Int32)) (by decide +kernel) (by decide) ?_
    refine sX_castore (by decide +kernel) (by decide) (fun M385 => ?_)
    refine sX_dup (by decide +kernel) rfl ?_
    refine sX_iconst (n := 1) (v := (1 : Int32)) (by decide +kernel) (by decide) ?_
    refine sX_bipush (n := 105) (v := (105 : Int32)) (by decide +kernel) (by decide) ?_
    refine sX_castore (by decide +kernel) (by decide) (fun M386 => ?_)
    refine sX_dup (by decide +kernel) rfl ?_
    refine sX_iconst (n := 2) (v := (2 : Int32)) (by decide +kernel) (by decide) ?_
    refine sX_bipush (n := 110) (v := (110 : Int32)) (by decide +kernel) (by decide) ?_
    refine sX_castore (by decide +kernel) (by decide) (fun M387 => ?_)
    refine sX_dup (by decide +kernel) rfl ?_
    refine sX_iconst (n := 3) (v := (3 : Int32)) (by decide +kernel) (by decide) ?_
    refine sX_bipush (n := 117) (v := (117 : Int32)) (by decide +kernel) (by decide) ?_
    refine sX_castore (by decide +kernel) (by decide) (fun M388 => ?_)
    refine sX_dup (by decide +kernel) rfl ?_
    refine sX_iconst (n := 4) (v := (4 : Int32)) (by decide +kernel) (by decide) ?_
    refine sX_bipush (n := 116) (v := (116 : Int32)) (by decide +kernel) (by decide) ?_
    refine sX_castore (by decide +kernel) (by decide) (fun M389 => ?_)
    refine sX_dup (by decide +kernel) rfl ?_
    refine sX_iconst (n := 5) (v := (5 : Int32)) (by decide +kernel) (by decide) ?_
    refine sX_bipush (n := 101) (v := (101 : Int32)) (by decide +kernel) (by decide) ?_
    refine sX_castore (by decide +kernel) (by decide) (fun M390 => ?_)
    refine sX_putFR lg_X12_81 rfl tk_12_31 (by decide +kernel) (by decide) (fun M391 => ?_)
    exact sX.le (xB628 v0 M391) (sLe_s sLe_e)
  have xB466 : ∀ (v0 : Nat) (M : sMem), sX G l 1 yX12_init cX12_init 1 none M0 r M' 466 [some (.ref v0)] [] M (f_X12_init_B466 v0 M) K := by
    intro v0 M
    unfold f_X12_init_B466
    refine sX_aload_n (i := 0) (by decide +kernel) rfl ?_
    refine sX_iconst (n := 4) (v := (4 : Int32)) (by decide +kernel) (by decide) ?_
    refine sX_newa ak_char (by decide +kernel) (by decide) (fun q392 M393 => ?_)
    refine sX_dup (by decide +kernel) rfl ?_
    refine sX_iconst (n := 0) (v := (0 : Int32)) (by decide +kernel) (by decide) ?_
    refine sX_bipush (n := 115) (v := (115 : Int32)) (by decide +kernel) (by decide) ?_
    refine sX_castore (by decide +kernel) (by decide) (fun M394 => ?_)
    refine sX_dup (by decide +kernel) rfl ?_
    refine sX_iconst (n := 1) (v := (1 : Int32)) (by decide +kernel) (by decide) ?_
    refine sX_bipush (n := 101) (v := (101 : Int32)) (by decide +kernel) (by decide) ?_
    refine sX_castore (by decide +kernel) (by decide) (fun M395 => ?_)
    refine sX_dup (by decide +kernel) rfl ?_
    refine sX_iconst (n := 2) (v := (2 : Int32)) (by decide +kernel) (by decide) ?_
    refine sX_bipush (n := 101) (v := (101 : Int32)) (by decide +kernel) (by decide) ?_
    refine sX_castore (by decide +kernel) (by decide) (fun M396 => ?_)
    refine sX_dup (by decide +kernel) rfl ?_
    refine sX_iconst (n := 3) (v := (3 : Int32)) (by decide +kernel) (by decide) ?_
    refine sX_bipush (n := 115) (v := (115 : Int32)) (by decide +kernel) (by decide) ?_
    refine sX_castore (by decide +kernel) (by decide) (fun M397 => ?_)
    refine sX_putFR lg_X12_69 rfl tk_12_27 (by decide +kernel) (by decide) (fun M398 => ?_)
    refine sX_aload_n (i := 0) (by decide +kernel) rfl ?_
    refine sX_iconst (n := 4) (v := (4 : Int32)) (by decide +kernel) (by decide) ?_
    refine sX_newa ak_char (by decide +kernel) (by decide) (fun q399 M400 => ?_)
    refine sX_dup (by decide +kernel) rfl ?_
    refine sX_iconst (n := 0) (v := (0 : Int32)) (by decide +kernel) (by decide) ?_
    refine sX_bipush (n := 112) (v := (112 : Int32)) (by decide +kernel) (by decide) ?_
    refine sX_castore (by decide +kernel) (by decide) (fun M401 => ?_)
    refine sX_dup (by decide +kernel) rfl ?_
    refine sX_iconst (n := 1) (v := (1 : Int32)) (by decide +kernel) (by decide) ?_
    refine sX_bipush (n := 105) (v := (105 : Int32)) (by decide +kernel) (by decide) ?_
    refine sX_castore (by decide +kernel) (by decide) (fun M402 => ?_)
    refine sX_dup (by decide +kernel) rfl ?_
    refine sX_iconst (n := 2) (v := (2 : Int32)) (by decide +kernel) (by decide) ?_
    refine sX_bipush (n := 103) (v := (103 : Int32)) (by decide +kernel) (by decide) ?_
    refine sX_castore (by decide +kernel) (by decide) (fun M403 => ?_)
    refine sX_dup (by decide +kernel) rfl ?_
    refine sX_iconst (n := 3) (v := (3 : Int32)) (by decide +kernel) (by decide) ?_
    refine sX_bipush (n := 115) (v := (115 : Int32)) (by decide +kernel) (by decide) ?_
    refine sX_castore (by decide +kernel) (by decide) (fun M404 => ?_)
    refine sX_putFR lg_X12_72 rfl tk_12_28 (by decide +kernel) (by decide) (fun M405 => ?_)
    refine sX_aload_n (i := 0) (by decide +kernel) rfl ?_
    refine sX_iconst (n := 5) (v := (5 : Int32)) (by decide +kernel) (by decide) ?_
    refine sX_newa ak_char (by decide +kernel) (by decide) (fun q406 M407 => ?_)
    refine sX_dup (by decide +kernel) rfl ?_
    refine sX_iconst (n := 0) (v := (0 : Int32)) (by decide +kernel) (by decide) ?_
    refine sX_bipush (n := 97) (v := (97 : Int32)) (by decide +kernel) (by decide) ?_
    refine sX_castore (by decide +kernel) (by decide) (fun M408 => ?_)
    refine sX_dup (by decide +kernel) rfl ?_
    refine sX_iconst (n := 1) (v := (1 : Int32)) (by decide +kernel) (by decide) ?_
    refine sX_bipush (n := 104) (v := (104 : Int32)) (by decide +kernel) (by decide) ?_
    refine sX_castore (by decide +kernel) (by decide) (fun M409 => ?_)
    refine sX_dup (by decide +kernel) rfl ?_
    refine sX_iconst (n := 2) (v := (2 : Int32)) (by decide +kernel) (by decide) ?_
    refine sX_bipush (n := 101) (v := (101 : Int32)) (by decide +kernel) (by decide) ?_
    refine sX_castore (by decide +kernel) (by decide) (fun M410 => ?_)
    refine sX_dup (by decide +kernel) rfl ?_
    refine sX_iconst (n := 3) (v := (3 : Int32)) (by decide +kernel) (by decide) ?_
    refine sX_bipush (n := 97) (v := (97 : Int32)) (by decide +kernel) (by decide) ?_
    refine sX_castore (by decide +kernel) (by decide) (fun M411 => ?_)
    refine sX_dup (by decide +kernel) rfl ?_
    refine sX_iconst (n := 4) (v := (4 : Int32)) (by decide +kernel) (by decide) ?_
    refine sX_bipush (n := 100) (v := (100 : Int32)) (by decide +kernel) (by decide) ?_
    refine sX_castore (by decide +kernel) (by decide) (fun M412 => ?_)
    refine sX_putFR lg_X12_75 rfl tk_12_29 (by decide +kernel) (by decide) (fun M413 => ?_)
    exact sX.le (xB552 v0 M413) (sLe_s sLe_e)
  have xB385 : ∀ (v0 : Nat) (M : sMem), sX G l 1 yX12_init cX12_init 1 none M0 r M' 385 [some (.ref v0)] [] M (f_X12_init_B385 v0 M) K := by
    intro v0 M
    unfold f_X12_init_B385
    refine sX_aload_n (i := 0) (by decide +kernel) rfl ?_
    refine sX_iconst (n := 3) (v := (3 : Int32)) (by decide +kernel) (by decide) ?_
    refine sX_newa ak_char (by decide +kernel) (by decide) (fun q414 M415 => ?_)
    refine sX_dup (by decide +kernel) rfl ?_
    refine sX_iconst (n := 0) (v := (0 : Int32)) (by decide +kernel) (by decide) ?_
    refine sX_bipush (n := 99) (v := (99 : Int32)) (by decide +kernel) (by decide) ?_
    refine sX_castore (by decide +kernel) (by decide) (fun M416 => ?_)
    refine sX_dup (by decide +kernel) rfl ?_
    refine sX_iconst (n := 1) (v := (1 : Int32)) (by decide +kernel) (by decide) ?_
    refine sX_bipush (n := 97) (v := (97 : Int32)) (by decide +kernel) (by decide) ?_
    refine sX_castore (by decide +kernel) (by decide) (fun M417 => ?_)
    refine sX_dup (by decide +kernel) rfl ?_
    refine sX_iconst (n := 2) (v := (2 : Int32)) (by decide +kernel) (by decide) ?_
    refine sX_bipush (n := 114) (v := (114 : Int32)) (by decide +kernel) (by decide) ?_
    refine sX_castore (by decide +kernel) (by decide) (fun M418 => ?_)
    refine sX_putFR lg_X12_60 rfl tk_12_24 (by decide +kernel) (by decide) (fun M419 => ?_)
    refine sX_aload_n (i := 0) (by decide +kernel) rfl ?_
    refine sX_iconst (n := 5) (v := (5 : Int32)) (by decide +kernel) (by decide) ?_
    refine sX_newa ak_char (by decide +kernel) (by decide) (fun q420 M421 => ?_)
    refine sX_dup (by decide +kernel) rfl ?_
    refine sX_iconst (n := 0) (v := (0 : Int32)) (by decide +kernel) (by decide) ?_
    refine sX_bipush (n := 115) (v := (115 : Int32)) (by decide +kernel) (by decide) ?_
    refine sX_castore (by decide +kernel) (by decide) (fun M422 => ?_)
    refine sX_dup (by decide +kernel) rfl ?_
    refine sX_iconst (n := 1) (v := (1 : Int32)) (by decide +kernel) (by decide) ?_
    refine sX_bipush (n := 104) (v := (104 : Int32)) (by decide +kernel) (by decide) ?_
    refine sX_castore (by decide +kernel) (by decide) (fun M423 => ?_)
    refine sX_dup (by decide +kernel) rfl ?_
    refine sX_iconst (n := 2) (v := (2 : Int32)) (by decide +kernel) (by decide) ?_
    refine sX_bipush (n := 117) (v := (117 : Int32)) (by decide +kernel) (by decide) ?_
    refine sX_castore (by decide +kernel) (by decide) (fun M424 => ?_)
    refine sX_dup (by decide +kernel) rfl ?_
    refine sX_iconst (n := 3) (v := (3 : Int32)) (by decide +kernel) (by decide) ?_
    refine sX_bipush (n := 116) (v := (116 : Int32)) (by decide +kernel) (by decide) ?_
    refine sX_castore (by decide +kernel) (by decide) (fun M425 => ?_)
    refine sX_dup (by decide +kernel) rfl ?_
    refine sX_iconst (n := 4) (v := (4 : Int32)) (by decide +kernel) (by decide) ?_
    refine sX_bipush (n := 115) (v := (115 : Int32)) (by decide +kernel) (by decide) ?_
    refine sX_castore (by decide +kernel) (by decide) (fun M426 => ?_)
    refine sX_putFR lg_X12_63 rfl tk_12_25 (by decide +kernel) (by decide) (fun M427 => ?_)
    refine sX_aload_n (i := 0) (by decide +kernel) rfl ?_
    refine sX_iconst (n := 4) (v := (4 : Int32)) (by decide +kernel) (by decide) ?_
    refine sX_newa ak_char (by decide +kernel) (by decide) (fun q428 M429 => ?_)
    refine sX_dup (by decide +kernel) rfl ?_
    refine sX_iconst (n := 0) (v := (0 : Int32)) (by decide +kernel) (by decide) ?_
    refine sX_bipush (n := 108) (v := (108 : Int32)) (by decide +kernel) (by decide) ?_
    refine sX_castore (by decide +kernel) (by decide) (fun M430 => ?_)
    refine sX_dup (by decide +kernel) rfl ?_
    refine sX_iconst (n := 1) (v := (1 : Int32)) (by decide +kernel) (by decide) ?_
    refine sX_bipush (n := 97) (v := (97 : Int32)) (by decide +kernel) (by decide) ?_
    refine sX_castore (by decide +kernel) (by decide) (fun M431 => ?_)
    refine sX_dup (by decide +kernel) rfl ?_
    refine sX_iconst (n := 2) (v := (2 : Int32)) (by decide +kernel) (by decide) ?_
    refine sX_bipush (n := 116) (v := (116 : Int32)) (by decide +kernel) (by decide) ?_
    refine sX_castore (by decide +kernel) (by decide) (fun M432 => ?_)
    refine sX_dup (by decide +kernel) rfl ?_
    refine sX_iconst (n := 3) (v := (3 : Int32)) (by decide +kernel) (by decide) ?_
    refine sX_bipush (n := 101) (v := (101 : Int32)) (by decide +kernel) (by decide) ?_
    refine sX_castore (by decide +kernel) (by decide) (fun M433 => ?_)
    refine sX_putFR lg_X12_66 rfl tk_12_26 (by decide +kernel) (by decide) (fun M434 => ?_)
    exact sX.le (xB466 v0 M434) (sLe_s sLe_e)
  have xB304 : ∀ (v0 : Nat) (M : sMem), sX G l 1 yX12_init cX12_init 1 none M0 r M' 304 [some (.ref v0)] [] M (f_X12_init_B304 v0 M) K := by
    intro v0 M
    unfold f_X12_init_B304
    refine sX_aload_n (i := 0) (by decide +kernel) rfl ?_
    refine sX_iconst (n := 4) (v := (4 : Int32)) (by decide +kernel) (by decide) ?_
    refine sX_newa ak_char (by decide +kernel) (by decide) (fun q435 M436 => ?_)
    refine sX_dup (by decide +kernel) rfl ?_
    refine sX_iconst (n := 0) (v := (0 : Int32)) (by decide +kernel) (by decide) ?_
    refine sX_bipush (n := 108) (v := (108 : Int32)) (by decide +kernel) (by decide) ?_
    refine sX_castore (by decide +kernel) (by decide) (fun M437 => ?_)
    refine sX_dup (by decide +kernel) rfl ?_
    refine sX_iconst (n := 1) (v := (1 : Int32)) (by decide +kernel) (by decide) ?_
    refine sX_bipush (n := 111) (v := (111 : Int32)) (by decide +kernel) (by decide) ?_
    refine sX_castore (by decide +kernel) (by decide) (fun M438 => ?_)
    refine sX_dup (by decide +kernel) rfl ?_
    refine sX_iconst (n := 2) (v := (2 : Int32)) (by decide +kernel) (by decide) ?_
    refine sX_bipush (n := 110) (v := (110 : Int32)) (by decide +kernel) (by decide) ?_
    refine sX_castore (by decide +kernel) (by decide) (fun M439 => ?_)
    refine sX_dup (by decide +kernel) rfl ?_
    refine sX_iconst (n := 3) (v := (3 : Int32)) (by decide +kernel) (by decide) ?_
    refine sX_bipush (n := 103) (v := (103 : Int32)) (by decide +kernel) (by decide) ?_
    refine sX_castore (by decide +kernel) (by decide) (fun M440 => ?_)
    refine sX_putFR lg_X12_51 rfl tk_12_21 (by decide +kernel) (by decide) (fun M441 => ?_)
    refine sX_aload_n (i := 0) (by decide +kernel) rfl ?_
    refine sX_iconst (n := 4) (v := (4 : Int32)) (by decide +kernel) (by decide) ?_
    refine sX_newa ak_char (by decide +kernel) (by decide) (fun q442 M443 => ?_)
    refine sX_dup (by decide +kernel) rfl ?_
    refine sX_iconst (n := 0) (v := (0 : Int32)) (by decide +kernel) (by decide) ?_
    refine sX_bipush (n := 112) (v := (112 : Int32)) (by decide +kernel) (by decide) ?_
    refine sX_castore (by decide +kernel) (by decide) (fun M444 => ?_)
    refine sX_dup (by decide +kernel) rfl ?_
    refine sX_iconst (n := 1) (v := (1 : Int32)) (by decide +kernel) (by decide) ?_
    refine sX_bipush (n := 97) (v := (97 : Int32)) (by decide +kernel) (by decide) ?_
    refine sX_castore (by decide +kernel) (by decide) (fun M445 => ?_)
    refine sX_dup (by decide +kernel) rfl ?_
    refine sX_iconst (n := 2) (v := (2 : Int32)) (by decide +kernel) (by decide) ?_
    refine sX_bipush (n := 99) (v := (99 : Int32)) (by decide +kernel) (by decide) ?_
    refine sX_castore (by decide +kernel) (by decide) (fun M446 => ?_)
    refine sX_dup (by decide +kernel) rfl ?_
    refine sX_iconst (n := 3) (v := (3 : Int32)) (by decide +kernel) (by decide) ?_
    refine sX_bipush (n := 101) (v := (101 : Int32)) (by decide +kernel) (by decide) ?_
    refine sX_castore (by decide +kernel) (by decide) (fun M447 => ?_)
    refine sX_putFR lg_X12_54 rfl tk_12_22 (by decide +kernel) (by decide) (fun M448 => ?_)
    refine sX_aload_n (i := 0) (by decide +kernel) rfl ?_
    refine sX_iconst (n := 4) (v := (4 : Int32)) (by decide +kernel) (by decide) ?_
    refine sX_newa ak_char (by decide +kernel) (by decide) (fun q449 M450 => ?_)
    refine sX_dup (by decide +kernel) rfl ?_
    refine sX_iconst (n := 0) (v := (0 : Int32)) (by decide +kernel) (by decide) ?_
    refine sX_bipush (n := 102) (v := (102 : Int32)) (by decide +kernel) (by decide) ?_
    refine sX_castore (by decide +kernel) (by decide) (fun M451 => ?_)
    refine sX_dup (by decide +kernel) rfl ?_
    refine sX_iconst (n := 1) (v := (1 : Int32)) (by decide +kernel) (by decide) ?_
    refine sX_bipush (n := 114) (v := (114 : Int32)) (by decide +kernel) (by decide) ?_
    refine sX_castore (by decide +kernel) (by decide) (fun M452 => ?_)
    refine sX_dup (by decide +kernel) rfl ?_
    refine sX_iconst (n := 2) (v := (2 : Int32)) (by decide +kernel) (by decide) ?_
    refine sX_bipush (n := 111) (v := (111 : Int32)) (by decide +kernel) (by decide) ?_
    refine sX_castore (by decide +kernel) (by decide) (fun M453 => ?_)
    refine sX_dup (by decide +kernel) rfl ?_
    refine sX_iconst (n := 3) (v := (3 : Int32)) (by decide +kernel) (by decide) ?_
    refine sX_bipush (n := 109) (v := (109 : Int32)) (by decide +kernel) (by decide) ?_
    refine sX_castore (by decide +kernel) (by decide) (fun M454 => ?_)
    refine sX_putFR lg_X12_57 rfl tk_12_23 (by decide +kernel) (by decide) (fun M455 => ?_)
    exact sX.le (xB385 v0 M455) (sLe_s sLe_e)
  have xB228 : ∀ (v0 : Nat) (M : sMem), sX G l 1 yX12_init cX12_init 1 none M0 r M' 228 [some (.ref v0)] [] M (f_X12_init_B228 v0 M) K := by
    intro v0 M
    unfold f_X12_init_B228
    refine sX_aload_n (i := 0) (by decide +kernel) rfl ?_
    refine sX_iconst (n := 4) (v := (4 : Int32)) (by decide +kernel) (by decide) ?_
    refine sX_newa ak_char (by decide +kernel) (by decide) (fun q456 M457 => ?_)
    refine sX_dup (by decide +kernel) rfl ?_
    refine sX_iconst (n := 0) (v := (0 : Int32)) (by decide +kernel) (by decide) ?_
    refine sX_bipush (n := 108) (v := (108 : Int32)) (by decide +kernel) (by decide) ?_
    refine sX_castore (by decide +kernel) (by decide) (fun M458 => ?_)
    refine sX_dup (by decide +kernel) rfl ?_
    refine sX_iconst (n := 1) (v := (1 : Int32)) (by decide +kernel) (by decide) ?_
    refine sX_bipush (n := 97) (v := (97 : Int32)) (by decide +kernel) (by decide) ?_
    refine sX_castore (by decide +kernel) (by decide) (fun M459 => ?_)
    refine sX_dup (by decide +kernel) rfl ?_
    refine sX_iconst (n := 2) (v := (2 : Int32)) (by decide +kernel) (by decide) ?_
    refine sX_bipush (n := 110) (v := (110 : Int32)) (by decide +kernel) (by decide) ?_
    refine sX_castore (by decide +kernel) (by decide) (fun M460 => ?_)
    refine sX_dup (by decide +kernel) rfl ?_
    refine sX_iconst (n := 3) (v := (3 : Int32)) (by decide +kernel) (by decide) ?_
    refine sX_bipush (n := 101) (v := (101 : Int32)) (by decide +kernel) (by decide) ?_
    refine sX_castore (by decide +kernel) (by decide) (fun M461 => ?_)
    refine sX_putFR lg_X12_42 rfl tk_12_18 (by decide +kernel) (by decide) (fun M462 => ?_)
    refine sX_aload_n (i := 0) (by decide +kernel) rfl ?_
    refine sX_iconst (n := 4) (v := (4 : Int32)) (by decide +kernel) (by decide) ?_
    refine sX_newa ak_char (by decide +kernel) (by decide) (fun q463 M464 => ?_)
    refine sX_dup (by decide +kernel) rfl ?_
    refine sX_iconst (n := 0) (v := (0 : Int32)) (by decide +kernel) (by decide) ?_
    refine sX_bipush (n := 111) (v := (111 : Int32)) (by decide +kernel) (by decide) ?_
    refine sX_castore (by decide +kernel) (by decide) (fun M465 => ?_)
    refine sX_dup (by decide +kernel) rfl ?_
    refine sX_iconst (n := 1) (v := (1 : Int32)) (by decide +kernel) (by decide) ?_
    refine sX_bipush (n := 118) (v := (118 : Int32)) (by decide +kernel) (by decide) ?_
    refine sX_castore (by decide +kernel) (by decide) (fun M466 => ?_)
    refine sX_dup (by decide +kernel) rfl ?_
    refine sX_iconst (n := 2) (v := (2 : Int32)) (by decide +kernel) (by decide) ?_
    refine sX_bipush (n := 101) (v := (101 : Int32)) (by decide +kernel) (by decide) ?_
    refine sX_castore (by decide +kernel) (by decide) (fun M467 => ?_)
    refine sX_dup (by decide +kernel) rfl ?_
    refine sX_iconst (n := 3) (v := (3 : Int32)) (by decide +kernel) (by decide) ?_
    refine sX_bipush (n := 114) (v := (114 : Int32)) (by decide +kernel) (by decide) ?_
    refine sX_castore (by decide +kernel) (by decide) (fun M468 => ?_)
    refine sX_putFR lg_X12_45 rfl tk_12_19 (by decide +kernel) (by decide) (fun M469 => ?_)
    refine sX_aload_n (i := 0) (by decide +kernel) rfl ?_
    refine sX_iconst (n := 3) (v := (3 : Int32)) (by decide +kernel) (by decide) ?_
    refine sX_newa ak_char (by decide +kernel) (by decide) (fun q470 M471 => ?_)
    refine sX_dup (by decide +kernel) rfl ?_
    refine sX_iconst (n := 0) (v := (0 : Int32)) (by decide +kernel) (by decide) ?_
    refine sX_bipush (n := 101) (v := (101 : Int32)) (by decide +kernel) (by decide) ?_
    refine sX_castore (by decide +kernel) (by decide) (fun M472 => ?_)
    refine sX_dup (by decide +kernel) rfl ?_
    refine sX_iconst (n := 1) (v := (1 : Int32)) (by decide +kernel) (by decide) ?_
    refine sX_bipush (n := 114) (v := (114 : Int32)) (by decide +kernel) (by decide) ?_
    refine sX_castore (by decide +kernel) (by decide) (fun M473 => ?_)
    refine sX_dup (by decide +kernel) rfl ?_
    refine sX_iconst (n := 2) (v := (2 : Int32)) (by decide +kernel) (by decide) ?_
    refine sX_bipush (n := 97) (v := (97 : Int32)) (by decide +kernel) (by decide) ?_
    refine sX_castore (by decide +kernel) (by decide) (fun M474 => ?_)
    refine sX_putFR lg_X12_48 rfl tk_12_20 (by decide +kernel) (by decide) (fun M475 => ?_)
    exact sX.le (xB304 v0 M475) (sLe_s sLe_e)
  have xB152 : ∀ (v0 : Nat) (M : sMem), sX G l 1 yX12_init cX12_init 1 none M0 r M' 152 [some (.ref v0)] [] M (f_X12_init_B152 v0 M) K := by
    intro v0 M
    unfold f_X12_init_B152
    refine sX_aload_n (i := 0) (by decide +kernel) rfl ?_
    refine sX_iconst (n := 4) (v := (4 : Int32)) (by decide +kernel) (by decide) ?_
    refine sX_newa ak_char (by decide +kernel) (by decide) (fun q476 M477 => ?_)
    refine sX_dup (by decide +kernel) rfl ?_
    refine sX_iconst (n := 0) (v := (0 : Int32)) (by decide +kernel) (by decide) ?_
    refine sX_bipush (n := 114) (v := (114 : Int32)) (by decide +kernel) (by decide) ?_
    refine sX_castore (by decide +kernel) (by decide) (fun M478 => ?_)
    refine sX_dup (by decide +kernel) rfl ?_
    refine sX_iconst (n := 1) (v := (1 : Int32)) (by decide +kernel) (by decide) ?_
    refine sX_bipush (n := 111) (v := (111 : Int32)) (by decide +kernel) (by decide) ?_
    refine sX_castore (by decide +kernel) (by decide) (fun M479 => ?_)
    refine sX_dup (by decide +kernel) rfl ?_
    refine sX_iconst (n := 2) (v := (2 : Int32)) (by decide +kernel) (by decide) ?_
    refine sX_bipush (n := 97) (v := (97 : Int32)) (by decide +kernel) (by decide) ?_
    refine sX_castore (by decide +kernel) (by decide) (fun M480 => ?_)
    refine sX_dup (by decide +kernel) rfl ?_
    refine sX_iconst (n := 3) (v := (3 : Int32)) (by decide +kernel) (by decide) ?_
    refine sX_bipush (n := 100) (v := (100 : Int32)) (by decide +kernel) (by decide) ?_
    refine sX_castore (by decide +kernel) (by decide) (fun M481 => ?_)
    refine sX_putFR lg_X12_33 rfl tk_12_15 (by decide +kernel) (by decide) (fun M482 => ?_)
    refine sX_aload_n (i := 0) (by decide +kernel) rfl ?_
    refine sX_iconst (n := 2) (v := (2 : Int32)) (by decide +kernel) (by decide) ?_
    refine sX_newa ak_char (by decide +kernel) (by decide) (fun q483 M484 => ?_)
    refine sX_dup (by decide +kernel) rfl ?_
    refine sX_iconst (n := 0) (v := (0 : Int32)) (by decide +kernel) (by decide) ?_
    refine sX_bipush (n := 116) (v := (116 : Int32)) (by decide +kernel) (by decide) ?_
    refine sX_castore (by decide +kernel) (by decide) (fun M485 => ?_)
    refine sX_dup (by decide +kernel) rfl ?_
    refine sX_iconst (n := 1) (v := (1 : Int32)) (by decide +kernel) (by decide) ?_
    refine sX_bipush (n := 111) (v := (111 : Int32)) (by decide +kernel) (by decide) ?_
    refine sX_castore (by decide +kernel) (by decide) (fun M486 => ?_)
    refine sX_putFR lg_X12_36 rfl tk_12_16 (by decide +kernel) (by decide) (fun M487 => ?_)
    refine sX_aload_n (i := 0) (by decide +kernel) rfl ?_
    refine sX_iconst (n := 5) (v := (5 : Int32)) (by decide +kernel) (by decide) ?_
    refine sX_newa ak_char (by decide +kernel) (by decide) (fun q488 M489 => ?_)
    refine sX_dup (by decide +kernel) rfl ?_
    refine sX_iconst (n := 0) (v := (0 : Int32)) (by decide +kernel) (by decide) ?_
    refine sX_bipush (n := 115) (v := (115 : Int32)) (by decide +kernel) (by decide) ?_
    refine sX_castore (by decide +kernel) (by decide) (fun M490 => ?_)
    refine sX_dup (by decide +kernel) rfl ?_
    refine sX_iconst (n := 1) (v := (1 : Int32)) (by decide +kernel) (by decide) ?_
    refine sX_bipush (n := 116) (v := (116 : Int32)) (by decide +kernel) (by decide) ?_
    refine sX_castore (by decide +kernel) (by decide) (fun M491 => ?_)
    refine sX_dup (by decide +kernel) rfl ?_
    refine sX_iconst (n := 2) (v := (2 : Int32)) (by decide +kernel) (by decide) ?_
    refine sX_bipush (n := 101) (v := (101 : Int32)) (by decide +kernel) (by decide) ?_
    refine sX_castore (by decide +kernel) (by decide) (fun M492 => ?_)
    refine sX_dup (by decide +kernel) rfl ?_
    refine sX_iconst (n := 3) (v := (3 : Int32)) (by decide +kernel) (by decide) ?_
    refine sX_bipush (n := 112) (v := (112 : Int32)) (by decide +kernel) (by decide) ?_
    refine sX_castore (by decide +kernel) (by decide) (fun M493 => ?_)
    refine sX_dup (by decide +kernel) rfl ?_
    refine sX_iconst (n := 4) (v := (4 : Int32)) (by decide +kernel) (by decide) ?_
    refine sX_bipush (n := 115) (v := (115 : Int32)) (by decide +kernel) (by decide) ?_
    refine sX_castore (by decide +kernel) (by decide) (fun M494 => ?_)
    refine sX_putFR lg_X12_39 rfl tk_12_17 (by decide +kernel) (by decide) (fun M495 => ?_)
    exact sX.le (xB228 v0 M495) (sLe_s sLe_e)
  have xB76 : ∀ (v0 : Nat) (M : sMem), sX G l 1 yX12_init cX12_init 1 none M0 r M' 76 [some (.ref v0)] [] M (f_X12_init_B76 v0 M) K := by
    intro v0 M
    unfold f_X12_init_B76
    refine sX_aload_n (i := 0) (by decide +kernel) rfl ?_
    refine sX_iconst (n := 4) (v := (4 : Int32)) (by decide +kernel) (by decide) ?_
    refine sX_newa ak_char (by decide +kernel) (by decide) (fun q496 M497 => ?_)
    refine sX_dup (by decide +kernel) rfl ?_
    refine sX_iconst (n := 0) (v := (0 : Int32)) (by decide +kernel) (by decide) ?_
    refine sX_bipush (n := 103) (v := (103 : Int32)) (by decide +kernel) (by decide) ?_
    refine sX_castore (by decide +kernel) (by decide) (fun M498 => ?_)
    refine sX_dup (by decide +kernel) rfl ?_
    refine sX_iconst (n := 1) (v := (1 : Int32)) (by decide +kernel) (by decide) ?_
    refine sX_bipush (n := 97) (v := (97 : Int32)) (by decide +kernel) (by decide) ?_
    refine sX_castore (by decide +kernel) (by decide) (fun M499 => ?_)
    refine sX_dup (by decide +kernel) rfl ?_
    refine sX_iconst (n := 2) (v := (2 : Int32)) (by decide +kernel) (by decide) ?_
    refine sX_bipush (n := 116) (v := (116 : Int32)) (by decide +kernel) (by decide) ?_
    refine sX_castore (by decide +kernel) (by decide) (fun M500 => ?_)
    refine sX_dup (by decide +kernel) rfl ?_
    refine sX_iconst (n := 3) (v := (3 : Int32)) (by decide +kernel) (by decide) ?_
    refine sX_bipush (n := 101) (v := (101 : Int32)) (by decide +kernel) (by decide) ?_
    refine sX_castore (by decide +kernel) (by decide) (fun M501 => ?_)
    refine sX_putFR lg_X12_24 rfl tk_12_12 (by decide +kernel) (by decide) (fun M502 => ?_)
    refine sX_aload_n (i := 0) (by decide +kernel) rfl ?_
    refine sX_iconst (n := 2) (v := (2 : Int32)) (by decide +kernel) (by decide) ?_
    refine sX_newa ak_char (by decide +kernel) (by decide) (fun q503 M504 => ?_)
    refine sX_dup (by decide +kernel) rfl ?_
    refine sX_iconst (n := 0) (v := (0 : Int32)) (by decide +kernel) (by decide) ?_
    refine sX_bipush (n := 97) (v := (97 : Int32)) (by decide +kernel) (by decide) ?_
    refine sX_castore (by decide +kernel) (by decide) (fun M505 => ?_)
    refine sX_dup (by decide +kernel) rfl ?_
    refine sX_iconst (n := 1) (v := (1 : Int32)) (by decide +kernel) (by decide) ?_
    refine sX_bipush (n := 116) (v := (116 : Int32)) (by decide +kernel) (by decide) ?_
    refine sX_castore (by decide +kernel) (by decide) (fun M506 => ?_)
    refine sX_putFR lg_X12_27 rfl tk_12_13 (by decide +kernel) (by decide) (fun M507 => ?_)
    refine sX_aload_n (i := 0) (by decide +kernel) rfl ?_
    refine sX_iconst (n := 5) (v := (5 : Int32)) (by decide +kernel) (by decide) ?_
    refine sX_newa ak_char (by decide +kernel) (by decide) (fun q508 M509 => ?_)
    refine sX_dup (by decide +kernel) rfl ?_
    refine sX_iconst (n := 0) (v := (0 : Int32)) (by decide +kernel) (by decide) ?_
    refine sX_bipush (n := 112) (v := (112 : Int32)) (by decide +kernel) (by decide) ?_
    refine sX_castore (by decide +kernel) (by decide) (fun M510 => ?_)
    refine sX_dup (by decide +kernel) rfl ?_
    refine sX_iconst (n := 1) (v := (1 : Int32)) (by decide +kernel) (by decide) ?_
    refine sX_bipush (n := 108) (v := (108 : Int32)) (by decide +kernel) (by decide) ?_
    refine sX_castore (by decide +kernel) (by decide) (fun M511 => ?_)
    refine sX_dup (by decide +kernel) rfl ?_
    refine sX_iconst (n := 2) (v := (2 : Int32)) (by decide +kernel) (by decide) ?_
    refine sX_bipush (n := 97) (v := (97 : Int32)) (by decide +kernel) (by decide) ?_
    refine sX_castore (by decide +kernel) (by decide) (fun M512 => ?_)
    refine sX_dup (by decide +kernel) rfl ?_
    refine sX_iconst (n := 3) (v := (3 : Int32)) (by decide +kernel) (by decide) ?_
    refine sX_bipush (n := 99) (v := (99 : Int32)) (by decide +kernel) (by decide) ?_
    refine sX_castore (by decide +kernel) (by decide) (fun M513 => ?_)
    refine sX_dup (by decide +kernel) rfl ?_
    refine sX_iconst (n := 4) (v := (4 : Int32)) (by decide +kernel) (by decide) ?_
    refine sX_bipush (n := 101) (v := (101 : Int32)) (by decide +kernel) (by decide) ?_
    refine sX_castore (by decide +kernel) (by decide) (fun M514 => ?_)
    refine sX_putFR lg_X12_30 rfl tk_12_14 (by decide +kernel) (by decide) (fun M515 => ?_)
    exact sX.le (xB152 v0 M515) (sLe_s sLe_e)
  refine sX_aload_n (i := 0) (by decide +kernel) rfl ?_
  refine sX_objI (by decide +kernel) lo_X12_1 oi_ok (by decide) (Nat.le_of_ble_eq_true rfl) ?_
  refine sX_aload_n (i := 0) (by decide +kernel) rfl ?_
  refine sX_sipush (n := 1600) (v := (1600 : Int32)) (by decide +kernel) (by decide) ?_
  refine sX_newa ak_int (by decide +kernel) (by decide) (fun q516 M517 => ?_)
  refine sX_putFR lg_X12_7 rfl tk_12_0 (by decide +kernel) (by decide) (fun M518 => ?_)
  refine sX_aload_n (i := 0) (by decide +kernel) rfl ?_
  refine sX_iconst (n := -1) (v := (-1 : Int32)) (by decide +kernel) (by decide) ?_
  refine sX_putI lf_X12_13 tp_12_8 (by decide +kernel) (by decide) (fun M519 => ?_)
  refine sX_aload_n (i := 0) (by decide +kernel) rfl ?_
  refine sX_bipush (n := 6) (v := (6 : Int32)) (by decide +kernel) (by decide) ?_
  refine sX_newa ak_int (by decide +kernel) (by decide) (fun q520 M521 => ?_)
  refine sX_putFR lg_X12_17 rfl tk_12_9 (by decide +kernel) (by decide) (fun M522 => ?_)
  refine sX_aload_n (i := 0) (by decide +kernel) rfl ?_
  refine sX_bipush (n := 8) (v := (8 : Int32)) (by decide +kernel) (by decide) ?_
  refine sX_newa ak_char (by decide +kernel) (by decide) (fun q523 M524 => ?_)
  refine sX_dup (by decide +kernel) rfl ?_
  refine sX_iconst (n := 0) (v := (0 : Int32)) (by decide +kernel) (by decide) ?_
  refine sX_bipush (n := 100) (v := (100 : Int32)) (by decide +kernel) (by decide) ?_
  refine sX_castore (by decide +kernel) (by decide) (fun M525 => ?_)
  refine sX_dup (by decide +kernel) rfl ?_
  refine sX_iconst (n := 1) (v := (1 : Int32)) (by decide +kernel) (by decide) ?_
  refine sX_bipush (n := 105) (v := (105 : Int32)) (by decide +kernel) (by decide) ?_
  refine sX_castore (by decide +kernel) (by decide) (fun M526 => ?_)
  refine sX_dup (by decide +kernel) rfl ?_
  refine sX_iconst (n := 2) (v := (2 : Int32)) (by decide +kernel) (by decide) ?_
  refine sX_bipush (n := 115) (v := (115 : Int32)) (by decide +kernel) (by decide) ?_
  refine sX_castore (by decide +kernel) (by decide) (fun M527 => ?_)
  refine sX_dup (by decide +kernel) rfl ?_
  refine sX_iconst (n := 3) (v := (3 : Int32)) (by decide +kernel) (by decide) ?_
  refine sX_bipush (n := 116) (v := (116 : Int32)) (by decide +kernel) (by decide) ?_
  refine sX_castore (by decide +kernel) (by decide) (fun M528 => ?_)
  refine sX_dup (by decide +kernel) rfl ?_
  refine sX_iconst (n := 4) (v := (4 : Int32)) (by decide +kernel) (by decide) ?_
  refine sX_bipush (n := 114) (v := (114 : Int32)) (by decide +kernel) (by decide) ?_
  refine sX_castore (by decide +kernel) (by decide) (fun M529 => ?_)
  refine sX_dup (by decide +kernel) rfl ?_
  refine sX_iconst (n := 5) (v := (5 : Int32)) (by decide +kernel) (by decide) ?_
  refine sX_bipush (n := 105) (v := (105 : Int32)) (by decide +kernel) (by decide) ?_
  refine sX_castore (by decide +kernel) (by decide) (fun M530 => ?_)
  refine sX_dup (by decide +kernel) rfl ?_
  refine sX_bipush (n := 6) (v := (6 : Int32)) (by decide +kernel) (by decide) ?_
  refine sX_bipush (n := 99) (v := (99 : Int32)) (by decide +kernel) (by decide) ?_
  refine sX_castore (by decide +kernel) (by decide) (fun M531 => ?_)
  refine sX_dup (by decide +kernel) rfl ?_
  refine sX_bipush (n := 7) (v := (7 : Int32)) (by decide +kernel) (by decide) ?_
  refine sX_bipush (n := 116) (v := (116 : Int32)) (by decide +kernel) (by decide) ?_
  refine sX_castore (by decide +kernel) (by decide) (fun M532 => ?_)
  refine sX_putFR lg_X12_20 rfl tk_12_11 (by decide +kernel) (by decide) (fun M533 => ?_)
  exact sX.le (xB76 v0 M533) (sLe_s sLe_e)
