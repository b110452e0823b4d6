/-! THE LAW'S LOOP: what is wanted of each call -/
set_option maxRecDepth 100000 in
theorem eL_law_0 (G : GT) (L : Nat → LV → AH → Option RS) (a0 : Nat) (h : AH) : am_ev qL_law uL_law 3 G L 4000 0 [(0, .ref a0)] [] h = am_cV (G 101 [.ref h.1] (am_new h (9, 16, fun j => am_dflt (am_fty 9 j)))) fun h1 => am_cV (G 150 [.ref h1.1] (am_new h1 (10, 49, fun j => am_dflt (am_fty 10 j)))) fun h2 => L 18 [(0, .ref a0), (1, .ref h.1), (2, .ref h1.1), (3, .int 0)] h2 := rfl
set_option maxRecDepth 100000 in
theorem eL_law_18 (G : GT) (L : Nat → LV → AH → Option RS) (a0 : Nat) (a1 : Nat) (a2 : Nat) (i3 : Int32) (h : AH) : am_ev qL_law uL_law 3 G L 4000 18 [(0, .ref a0), (1, .ref a1), (2, .ref a2), (3, .int i3)] [] h = (am_len h a0).bind fun x1 => if (x1 - 6) < i3 then (some (some (.int 1), h)) else (am_aI h a0 i3).bind fun x2 => if (x2 &&& 63) = 0 then ((am_aI h a0 (i3 + 1)).bind fun x3 => (am_aI h a0 (i3 + 2)).bind fun x4 => (am_aI h a0 (i3 + 3)).bind fun x5 => (am_aI h a0 (i3 + 4)).bind fun x6 => (am_aI h a0 (i3 + 5)).bind fun x7 => bif am_isK h a1 9 then (am_cI (G 102 [.ref a1, .int x3, .int x4, .int x5, .int x6, .int x7] h) fun x9 h8 => (am_aI h8 a0 (i3 + 1)).bind fun x10 => (am_aI h8 a0 (i3 + 2)).bind fun x11 => (am_aI h8 a0 (i3 + 3)).bind fun x12 => (am_aI h8 a0 (i3 + 4)).bind fun x13 => (am_aI h8 a0 (i3 + 5)).bind fun x14 => bif am_isK h8 a2 10 then (am_cI (G 159 [.ref a2, .int x10, .int x11, .int x12, .int x13, .int x14] h8) fun x16 h15 => if x9 = x16 then (L 1146 [(0, .ref a0), (1, .ref a1), (2, .ref a2), (3, .int i3)] h15) else some (some (.int 0), h15)) else none) else none) else if (x2 &&& 63) = 1 then ((am_aI h a0 (i3 + 1)).bind fun x17 => bif am_isK h a1 9 then (am_cI (G 104 [.ref a1, .int x17] h) fun x19 h18 => (am_aI h18 a0 (i3 + 1)).bind fun x20 => bif am_isK h18 a2 10 then (am_cI (G 160 [.ref a2, .int x20] h18) fun x22 h21 => if x19 = x22 then (L 1146 [(0, .ref a0), (1, .ref a1), (2, .ref a2), (3, .int i3)] h21) else some (some (.int 0), h21)) else none) else none) else if (x2 &&& 63) = 2 then (bif am_isK h a1 9 then (am_cI (G 105 [.ref a1] h) fun x24 h23 => bif am_isK h23 a2 10 then (am_cI (G 179 [.ref a2] h23) fun x26 h25 => if x24 = x26 then (L 1146 [(0, .ref a0), (1, .ref a1), (2, .ref a2), (3, .int i3)] h25) else some (some (.int 0), h25)) else none) else none) else if (x2 &&& 63) = 3 then (bif am_isK h a1 9 then (am_cI (G 106 [.ref a1] h) fun x28 h27 => bif am_isK h27 a2 10 then (am_cI (G 180 [.ref a2] h27) fun x30 h29 => if x28 = x30 then (L 1146 [(0, .ref a0), (1, .ref a1), (2, .ref a2), (3, .int i3)] h29) else some (some (.int 0), h29)) else none) else none) else if (x2 &&& 63) = 4 then ((am_aI h a0 (i3 + 1)).bind fun x31 => (am_aI h a0 (i3 + 2)).bind fun x32 => bif am_isK h a1 9 then (am_cI (G 107 [.ref a1, .int x31, .int x32] h) fun x34 h33 => (am_aI h33 a0 (i3 + 1)).bind fun x35 => (am_aI h33 a0 (i3 + 2)).bind fun x36 => bif am_isK h33 a2 10 then (am_cI (G 193 [.ref a2, .int x35, .int x36] h33) fun x38 h37 => if x34 = x38 then (L 1146 [(0, .ref a0), (1, .ref a1), (2, .ref a2), (3, .int i3)] h37) else some (some (.int 0), h37)) else none) else none) else if (x2 &&& 63) = 5 then ((am_aI h a0 (i3 + 1)).bind fun x39 => (am_aI h a0 (i3 + 2)).bind fun x40 => bif am_isK h a1 9 then (am_cI (G 108 [.ref a1, .int x39, .int x40] h) fun x42 h41 => (am_aI h41 a0 (i3 + 1)).bind fun x43 => (am_aI h41 a0 (i3 + 2)).bind fun x44 => bif am_isK h41 a2 10 then (am_cI (G 194 [.ref a2, .int x43, .int x44] h41) fun x46 h45 => if x42 = x46 then (L 1146 [(0, .ref a0), (1, .ref a1), (2, .ref a2), (3, .int i3)] h45) else some (some (.int 0), h45)) else none) else none) else if (x2 &&& 63) = 6 then ((am_aI h a0 (i3 + 1)).bind fun x47 => (am_aI h a0 (i3 + 2)).bind fun x48 => bif am_isK h a1 9 then (am_cL (G 109 [.ref a1, .int x47, .int x48] h) fun x50 h49 => (am_aI h49 a0 (i3 + 1)).bind fun x51 => (am_aI h49 a0 (i3 + 2)).bind fun x52 => bif am_isK h49 a2 10 then (am_cL (G 195 [.ref a2, .int x51, .int x52] h49) fun x54 h53 => if (lg_cmp x50 x54) = 0 then (L 1146 [(0, .ref a0), (1, .ref a1), (2, .ref a2), (3, .int i3)] h53) else some (some (.int 0), h53)) else none) else none) else if (x2 &&& 63) = 7 then ((am_aI h a0 (i3 + 1)).bind fun x55 => (am_aI h a0 (i3 + 2)).bind fun x56 => bif am_isK h a1 9 then (am_cI (G 110 [.ref a1, .int x55, .int x56] h) fun x58 h57 => (am_aI h57 a0 (i3 + 1)).bind fun x59 => (am_aI h57 a0 (i3 + 2)).bind fun x60 => bif am_isK h57 a2 10 then (am_cI (G 196 [.ref a2, .int x59, .int x60] h57) fun x62 h61 => if x58 = x62 then (L 1146 [(0, .ref a0), (1, .ref a1), (2, .ref a2), (3, .int i3)] h61) else some (some (.int 0), h61)) else none) else none) else if (x2 &&& 63) = 8 then (bif am_isK h a1 9 then (am_cI (G 111 [.ref a1] h) fun x64 h63 => bif am_isK h63 a2 10 then (am_cI (G 197 [.ref a2] h63) fun x66 h65 => if x64 = x66 then (L 1146 [(0, .ref a0), (1, .ref a1), (2, .ref a2), (3, .int i3)] h65) else some (some (.int 0), h65)) else none) else none) else if (x2 &&& 63) = 9 then ((am_aI h a0 (i3 + 1)).bind fun x67 => (am_aI h a0 (i3 + 2)).bind fun x68 => (am_aI h a0 (i3 + 3)).bind fun x69 => bif am_isK h a1 9 then (am_cI (G 112 [.ref a1, .int x67, .int x68, .int x69] h) fun x71 h70 => (am_aI h70 a0 (i3 + 1)).bind fun x72 => (am_aI h70 a0 (i3 + 2)).bind fun x73 => (am_aI h70 a0 (i3 + 3)).bind fun x74 => bif am_isK h70 a2 10 then (am_cI (G 198 [.ref a2, .int x72, .int x73, .int x74] h70) fun x76 h75 => if x71 = x76 then (L 1146 [(0, .ref a0), (1, .ref a1), (2, .ref a2), (3, .int i3)] h75) else some (some (.int 0), h75)) else none) else none) else if (x2 &&& 63) = 10 then ((am_aI h a0 (i3 + 1)).bind fun x77 => (am_aI h a0 (i3 + 2)).bind fun x78 => bif am_isK h a1 9 then (am_cI (G 113 [.ref a1, .int x77, .int x78] h) fun x80 h79 => (am_aI h79 a0 (i3 + 1)).bind fun x81 => (am_aI h79 a0 (i3 + 2)).bind fun x82 => bif am_isK h79 a2 10 then (am_cI (G 199 [.ref a2, .int x81, .int x82] h79) fun x84 h83 => if x80 = x84 then (L 1146 [(0, .ref a0), (1, .ref a1), (2, .ref a2), (3, .int i3)] h83) else some (some (.int 0), h83)) else none) else none) else if (x2 &&& 63) = 11 then (bif am_isK h a1 9 then (am_cL (G 114 [.ref a1] h) fun x86 h85 => bif am_isK h85 a2 10 then (am_cL (G 205 [.ref a2] h85) fun x88 h87 => if (lg_cmp x86 x88) = 0 then (L 1146 [(0, .ref a0), (1, .ref a1), (2, .ref a2), (3, .int i3)] h87) else some (some (.int 0), h87)) else none) else none) else if (x2 &&& 63) = 12 then ((am_aI h a0 (i3 + 1)).bind fun x89 => (am_aI h a0 (i3 + 2)).bind fun x90 => bif am_isK h a1 9 then (am_cL (G 115 [.ref a1, .int x89, .int x90] h) fun x92 h91 => (am_aI h91 a0 (i3 + 1)).bind fun x93 => (am_aI h91 a0 (i3 + 2)).bind fun x94 => bif am_isK h91 a2 10 then (am_cL (G 206 [.ref a2, .int x93, .int x94] h91) fun x96 h95 => if (lg_cmp x92 x96) = 0 then (L 1146 [(0, .ref a0), (1, .ref a1), (2, .ref a2), (3, .int i3)] h95) else some (some (.int 0), h95)) else none) else none) else if (x2 &&& 63) = 13 then ((am_aI h a0 (i3 + 1)).bind fun x97 => bif am_isK h a1 9 then (am_cL (G 116 [.ref a1, .int x97] h) fun x99 h98 => (am_aI h98 a0 (i3 + 1)).bind fun x100 => bif am_isK h98 a2 10 then (am_cL (G 211 [.ref a2, .int x100] h98) fun x102 h101 => if (lg_cmp x99 x102) = 0 then (L 1146 [(0, .ref a0), (1, .ref a1), (2, .ref a2), (3, .int i3)] h101) else some (some (.int 0), h101)) else none) else none) else if (x2 &&& 63) = 14 then ((am_aI h a0 (i3 + 1)).bind fun x103 => bif am_isK h a1 9 then (am_cI (G 117 [.ref a1, .int x103] h) fun x105 h104 => (am_aI h104 a0 (i3 + 1)).bind fun x106 => bif am_isK h104 a2 10 then (am_cI (G 212 [.ref a2, .int x106] h104) fun x108 h107 => if x105 = x108 then (L 1146 [(0, .ref a0), (1, .ref a1), (2, .ref a2), (3, .int i3)] h107) else some (some (.int 0), h107)) else none) else none) else if (x2 &&& 63) = 15 then (bif am_isK h a1 9 then (am_cI (G 118 [.ref a1] h) fun x110 h109 => bif am_isK h109 a2 10 then (am_cI (G 213 [.ref a2] h109) fun x112 h111 => if x110 = x112 then (L 1146 [(0, .ref a0), (1, .ref a1), (2, .ref a2), (3, .int i3)] h111) else some (some (.int 0), h111)) else none) else none) else if (x2 &&& 63) = 16 then ((am_aI h a0 (i3 + 1)).bind fun x113 => (am_aI h a0 (i3 + 2)).bind fun x114 => bif am_isK h a1 9 then (am_cL (G 119 [.ref a1, .int x113, .int x114] h) fun x116 h115 => (am_aI h115 a0 (i3 + 1)).bind fun x117 => (am_aI h115 a0 (i3 + 2)).bind fun x118 => bif am_isK h115 a2 10 then (am_cL (G 217 [.ref a2, .int x117, .int x118] h115) fun x120 h119 => if (lg_cmp x116 x120) = 0 then (L 1146 [(0, .ref a0), (1, .ref a1), (2, .ref a2), (3, .int i3)] h119) else some (some (.int 0), h119)) else none) else none) else if (x2 &&& 63) = 17 then ((am_aI h a0 (i3 + 1)).bind fun x121 => bif am_isK h a1 9 then (am_cI (G 120 [.ref a1, .int x121] h) fun x123 h122 => (am_aI h122 a0 (i3 + 1)).bind fun x124 => bif am_isK h122 a2 10 then (am_cI (G 218 [.ref a2, .int x124] h122) fun x126 h125 => if x123 = x126 then (L 1146 [(0, .ref a0), (1, .ref a1), (2, .ref a2), (3, .int i3)] h125) else some (some (.int 0), h125)) else none) else none) else if (x2 &&& 63) = 18 then ((am_aI h a0 (i3 + 1)).bind fun x127 => (am_aI h a0 (i3 + 2)).bind fun x128 => bif am_isK h a1 9 then (am_cL (G 121 [.ref a1, .int x127, .int x128] h) fun x130 h129 => (am_aI h129 a0 (i3 + 1)).bind fun x131 => (am_aI h129 a0 (i3 + 2)).bind fun x132 => bif am_isK h129 a2 10 then (am_cL (G 221 [.ref a2, .int x131, .int x132] h129) fun x134 h133 => if (lg_cmp x130 x134) = 0 then (L 1146 [(0, .ref a0), (1, .ref a1), (2, .ref a2), (3, .int i3)] h133) else some (some (.int 0), h133)) else none) else none) else if (x2 &&& 63) = 19 then (bif am_isK h a1 9 then (am_cL (G 122 [.ref a1] h) fun x136 h135 => bif am_isK h135 a2 10 then (am_cL (G 224 [.ref a2] h135) fun x138 h137 => if (lg_cmp x136 x138) = 0 then (L 1146 [(0, .ref a0), (1, .ref a1), (2, .ref a2), (3, .int i3)] h137) else some (some (.int 0), h137)) else none) else none) else if (x2 &&& 63) = 20 then (bif am_isK h a1 9 then (am_cL (G 123 [.ref a1] h) fun x140 h139 => bif am_isK h139 a2 10 then (am_cL (G 207 [.ref a2] h139) fun x142 h141 => if (lg_cmp x140 x142) = 0 then (L 1146 [(0, .ref a0), (1, .ref a1), (2, .ref a2), (3, .int i3)] h141) else some (some (.int 0), h141)) else none) else none) else if (x2 &&& 63) = 21 then ((am_aI h a0 (i3 + 1)).bind fun x143 => (am_aI h a0 (i3 + 2)).bind fun x144 => bif am_isK h a1 9 then (am_cI (G 124 [.ref a1, .int x143, .int x144] h) fun x146 h145 => (am_aI h145 a0 (i3 + 1)).bind fun x147 => (am_aI h145 a0 (i3 + 2)).bind fun x148 => bif am_isK h145 a2 10 then (am_cI (G 208 [.ref a2, .int x147, .int x148] h145) fun x150 h149 => if x146 = x150 then (L 1146 [(0, .ref a0), (1, .ref a1), (2, .ref a2), (3, .int i3)] h149) else some (some (.int 0), h149)) else none) else none) else if (x2 &&& 63) = 22 then ((am_aI h a0 (i3 + 1)).bind fun x151 => (am_aI h a0 (i3 + 2)).bind fun x152 => (am_aI h a0 (i3 + 3)).bind fun x153 => (am_aI h a0 (i3 + 4)).bind fun x154 => bif am_isK h a1 9 then (am_cI (G 125 [.ref a1, .int x151, .long ((x152.toInt64 <<< ((32 : Int32).toInt64 &&& 63)) ||| (x153.toInt64 &&& 4294967295)), .int x154] h) fun x156 h155 => (am_aI h155 a0 (i3 + 1)).bind fun x157 => (am_aI h155 a0 (i3 + 2)).bind fun x158 => (am_aI h155 a0 (i3 + 3)).bind fun x159 => (am_aI h155 a0 (i3 + 4)).bind fun x160 => bif am_isK h155 a2 10 then (am_cI (G 228 [.ref a2, .int x157, .long ((x158.toInt64 <<< ((32 : Int32).toInt64 &&& 63)) ||| (x159.toInt64 &&& 4294967295)), .int x160] h155) fun x162 h161 => if x156 = x162 then (L 1146 [(0, .ref a0), (1, .ref a1), (2, .ref a2), (3, .int i3)] h161) else some (some (.int 0), h161)) else none) else none) else if (x2 &&& 63) = 23 then ((am_aI h a0 (i3 + 1)).bind fun x163 => bif am_isK h a1 9 then (am_cL (G 126 [.ref a1, .int x163] h) fun x165 h164 => (am_aI h164 a0 (i3 + 1)).bind fun x166 => bif am_isK h164 a2 10 then (am_cL (G 229 [.ref a2, .int x166] h164) fun x168 h167 => if (lg_cmp x165 x168) = 0 then (L 1146 [(0, .ref a0), (1, .ref a1), (2, .ref a2), (3, .int i3)] h167) else some (some (.int 0), h167)) else none) else none) else if (x2 &&& 63) = 24 then ((am_aI h a0 (i3 + 1)).bind fun x169 => bif am_isK h a1 9 then (am_cL (G 128 [.ref a1, .int x169] h) fun x171 h170 => (am_aI h170 a0 (i3 + 1)).bind fun x172 => bif am_isK h170 a2 10 then (am_cL (G 236 [.ref a2, .int x172] h170) fun x174 h173 => if (lg_cmp x171 x174) = 0 then (L 1146 [(0, .ref a0), (1, .ref a1), (2, .ref a2), (3, .int i3)] h173) else some (some (.int 0), h173)) else none) else none) else if (x2 &&& 63) = 25 then ((am_aI h a0 (i3 + 1)).bind fun x175 => bif am_isK h a1 9 then (am_cL (G 129 [.ref a1, .int x175] h) fun x177 h176 => (am_aI h176 a0 (i3 + 1)).bind fun x178 => bif am_isK h176 a2 10 then (am_cL (G 237 [.ref a2, .int x178] h176) fun x180 h179 => if (lg_cmp x177 x180) = 0 then (L 1146 [(0, .ref a0), (1, .ref a1), (2, .ref a2), (3, .int i3)] h179) else some (some (.int 0), h179)) else none) else none) else if (x2 &&& 63) = 26 then ((am_aI h a0 (i3 + 1)).bind fun x181 => (am_aI h a0 (i3 + 2)).bind fun x182 => bif am_isK h a1 9 then (am_cI (G 130 [.ref a1, .int x181, .int x182] h) fun x184 h183 => (am_aI h183 a0 (i3 + 1)).bind fun x185 => (am_aI h183 a0 (i3 + 2)).bind fun x186 => bif am_isK h183 a2 10 then (am_cI (G 244 [.ref a2, .int x185, .int x186] h183) fun x188 h187 => if x184 = x188 then (L 1146 [(0, .ref a0), (1, .ref a1), (2, .ref a2), (3, .int i3)] h187) else some (some (.int 0), h187)) else none) else none) else if (x2 &&& 63) = 27 then ((am_aI h a0 (i3 + 1)).bind fun x189 => (am_aI h a0 (i3 + 2)).bind fun x190 => bif am_isK h a1 9 then (am_cL (G 131 [.ref a1, .int x189, .int x190] h) fun x192 h191 => (am_aI h191 a0 (i3 + 1)).bind fun x193 => (am_aI h191 a0 (i3 + 2)).bind fun x194 => bif am_isK h191 a2 10 then (am_cL (G 245 [.ref a2, .int x193, .int x194] h191) fun x196 h195 => if (lg_cmp x192 x196) = 0 then (L 1146 [(0, .ref a0), (1, .ref a1), (2, .ref a2), (3, .int i3)] h195) else some (some (.int 0), h195)) else none) else none) else if (x2 &&& 63) = 28 then ((am_aI h a0 (i3 + 1)).bind fun x197 => bif am_isK h a1 9 then (am_cI (G 132 [.ref a1, .int x197] h) fun x199 h198 => (am_aI h198 a0 (i3 + 1)).bind fun x200 => bif am_isK h198 a2 10 then (am_cI (G 246 [.ref a2, .int x200] h198) fun x202 h201 => if x199 = x202 then (L 1146 [(0, .ref a0), (1, .ref a1), (2, .ref a2), (3, .int i3)] h201) else some (some (.int 0), h201)) else none) else none) else if (x2 &&& 63) = 29 then ((am_aI h a0 (i3 + 1)).bind fun x203 => bif am_isK h a1 9 then (am_cI (G 133 [.ref a1, .int x203] h) fun x205 h204 => (am_aI h204 a0 (i3 + 1)).bind fun x206 => bif am_isK h204 a2 10 then (am_cI (G 248 [.ref a2, .int x206] h204) fun x208 h207 => if x205 = x208 then (L 1146 [(0, .ref a0), (1, .ref a1), (2, .ref a2), (3, .int i3)] h207) else some (some (.int 0), h207)) else none) else none) else if (x2 &&& 63) = 30 then ((am_aI h a0 (i3 + 1)).bind fun x209 => bif am_isK h a1 9 then (am_cL (G 134 [.ref a1, .int x209] h) fun x211 h210 => (am_aI h210 a0 (i3 + 1)).bind fun x212 => bif am_isK h210 a2 10 then (am_cL (G 249 [.ref a2, .int x212] h210) fun x214 h213 => if (lg_cmp x211 x214) = 0 then (L 1146 [(0, .ref a0), (1, .ref a1), (2, .ref a2), (3, .int i3)] h213) else some (some (.int 0), h213)) else none) else none) else if (x2 &&& 63) = 31 then ((am_aI h a0 (i3 + 1)).bind fun x215 => bif am_isK h a1 9 then (am_cI (G 135 [.ref a1, .int x215] h) fun x217 h216 => (am_aI h216 a0 (i3 + 1)).bind fun x218 => bif am_isK h216 a2 10 then (am_cI (G 151 [.ref a2, .int x218] h216) fun x220 h219 => if x217 = x220 then (L 1146 [(0, .ref a0), (1, .ref a1), (2, .ref a2), (3, .int i3)] h219) else some (some (.int 0), h219)) else none) else none) else if (x2 &&& 63) = 32 then ((am_aI h a0 (i3 + 1)).bind fun x221 => bif am_isK h a1 9 then (am_cI (G 136 [.ref a1, .int x221] h) fun x223 h222 => (am_aI h222 a0 (i3 + 1)).bind fun x224 => bif am_isK h222 a2 10 then (am_cI (G 152 [.ref a2, .int x224] h222) fun x226 h225 => if x223 = x226 then (L 1146 [(0, .ref a0), (1, .ref a1), (2, .ref a2), (3, .int i3)] h225) else some (some (.int 0), h225)) else none) else none) else if (x2 &&& 63) = 33 then ((am_aI h a0 (i3 + 1)).bind fun x227 => bif am_isK h a1 9 then (am_cI (G 137 [.ref a1, .int x227] h) fun x229 h228 => (am_aI h228 a0 (i3 + 1)).bind fun x230 => bif am_isK h228 a2 10 then (am_cI (G 250 [.ref a2, .int x230] h228) fun x232 h231 => if x229 = x232 then (L 1146 [(0, .ref a0), (1, .ref a1), (2, .ref a2), (3, .int i3)] h231) else some (some (.int 0), h231)) else none) else none) else if (x2 &&& 63) = 34 then (bif am_isK h a1 9 then (am_cI (G 138 [.ref a1] h) fun x234 h233 => bif am_isK h233 a2 10 then (am_cI (G 251 [.ref a2] h233) fun x236 h235 => if x234 = x236 then (L 1146 [(0, .ref a0), (1, .ref a1), (2, .ref a2), (3, .int i3)] h235) else some (some (.int 0), h235)) else none) else none) else L 1146 [(0, .ref a0), (1, .ref a1), (2, .ref a2), (3, .int i3)] h := rfl
set_option maxRecDepth 100000 in
theorem eL_law_1146 (G : GT) (L : Nat → LV → AH → Option RS) (a0 : Nat) (a1 : Nat) (a2 : Nat) (i3 : Int32) (h : AH) : am_ev qL_law uL_law 3 G L 4000 1146 [(0, .ref a0), (1, .ref a1), (2, .ref a2), (3, .int i3)] [] h = L 18 [(0, .ref a0), (1, .ref a1), (2, .ref a2), (3, .int (i3 + 6))] h := rfl
/-- the script lies where it lay -/
def lx_scr (n : Nat) (xs : Nat → Int32) (h : AH) : Prop := h.1 = 140 ∧ h.2.2 28 = (100, n, fun j => .int (xs j))
theorem lx_len {n : Nat} {xs : Nat → Int32} {h : AH} (H : lx_scr n xs h) : am_len h 28 = some (zi n) := by
  unfold am_len am_cell
  rw [if_pos (by rw [H.1]; decide), H.2]
  dsimp only
  rw [if_pos (by decide)]
  exact congrArg some (Int32.ofInt_eq_ofNat).symm
theorem lx_at {n : Nat} {xs : Nat → Int32} {h : AH} (H : lx_scr n xs h) {z : Int} (h0 : 0 ≤ z) (h1 : z < n) (hn : n ≤ 3072) : am_aI h 28 (zi z) = some (xs z.toNat) := by
  have e : (zi z).toNatClampNeg = z.toNat := zi_nat h0 (by omega)
  have hneg : ¬ zi z < 0 := by
    rw [show (0 : Int32) = zi 0 from zi_lit 0, zi_lt (by omega) (by omega) (by omega) (by omega)]
    omega
  unfold am_aI am_a am_cell
  rw [if_pos (by rw [H.1]; decide), H.2]
  dsimp only
  rw [e, if_pos ⟨rfl, fun q => q.elim hneg (fun q => by omega)⟩]
theorem lx_at' {n : Nat} {xs : Nat → Int32} {h : AH} (H : lx_scr n xs h) {z : Int} (j : Nat) (h0 : 0 ≤ z) (h1 : z + j < n) (hn : n ≤ 3072) {y : Int32} (hy : y = zi j) : am_aI h 28 (zi z + y) = some (xs (z + j).toNat) := by
  rw [hy, zi_add]
  exact lx_at H (by omega) h1 hn
theorem lx_k {h : AH} {a c : Nat} (h1 : h.1 = 140) (ha : a < 140) (hk : (h.2.2 a).1 = c) : am_isK h a c = true := by
  unfold am_isK am_cell
  rw [if_pos (by omega)]
  dsimp only
  rw [hk]
  exact Nat.beq_refl c
/-- class and model answer alike; what is between them holds again -/
def lx_stI (Inv : Nat → AH → Prop) (d a b : Nat) (as : List Value) : Prop := ∀ t h, t < 512 → Inv t h → ∃ v h1 h2, am_sem d a (.ref 29 :: as) h = some (some (.int v), h1) ∧ am_sem d b (.ref 113 :: as) h1 = some (some (.int v), h2) ∧ (h1.1 = 140 ∧ (h1.2.2 113).1 = 10) ∧ Inv (t + 1) h2
def lx_stL (Inv : Nat → AH → Prop) (d a b : Nat) (as : List Value) : Prop := ∀ t h, t < 512 → Inv t h → ∃ v h1 h2, am_sem d a (.ref 29 :: as) h = some (some (.long v), h1) ∧ am_sem d b (.ref 113 :: as) h1 = some (some (.long v), h2) ∧ (h1.1 = 140 ∧ (h1.2.2 113).1 = 10) ∧ Inv (t + 1) h2
theorem lx_cmp (x : Int64) : lg_cmp x x = 0 := by
  unfold lg_cmp
  simp
set_option maxHeartbeats 8000000 in
set_option maxRecDepth 100000 in
theorem lx_loop (Inv : Nat → AH → Prop) (hI : ∀ t h, Inv t h → h.1 = 140 ∧ (h.2.2 29).1 = 9 ∧ (h.2.2 113).1 = 10 ∧ h.2.1 = 17062) {d : Nat}
    (c0 : ∀ (x1 : Int32) (x2 : Int32) (x3 : Int32) (x4 : Int32) (x5 : Int32), lx_stI Inv d 102 159 [.int x1, .int x2, .int x3, .int x4, .int x5])
    (c1 : ∀ (x1 : Int32), lx_stI Inv d 104 160 [.int x1])
    (c2 : lx_stI Inv d 105 179 [])
    (c3 : lx_stI Inv d 106 180 [])
    (c4 : ∀ (x1 : Int32) (x2 : Int32), lx_stI Inv d 107 193 [.int x1, .int x2])
    (c5 : ∀ (x1 : Int32) (x2 : Int32), lx_stI Inv d 108 194 [.int x1, .int x2])
    (c6 : ∀ (x1 : Int32) (x2 : Int32), lx_stL Inv d 109 195 [.int x1, .int x2])
    (c7 : ∀ (x1 : Int32) (x2 : Int32), lx_stI Inv d 110 196 [.int x1, .int x2])
    (c8 : lx_stI Inv d 111 197 [])
    (c9 : ∀ (x1 : Int32) (x2 : Int32) (x3 : Int32), lx_stI Inv d 112 198 [.int x1, .int x2, .int x3])
    (c10 : ∀ (x1 : Int32) (x2 : Int32), lx_stI Inv d 113 199 [.int x1, .int x2])
    (c11 : lx_stL Inv d 114 205 [])
    (c12 : ∀ (x1 : Int32) (x2 : Int32), lx_stL Inv d 115 206 [.int x1, .int x2])
    (c13 : ∀ (x1 : Int32), lx_stL Inv d 116 211 [.int x1])
    (c14 : ∀ (x1 : Int32), lx_stI Inv d 117 212 [.int x1])
    (c15 : lx_stI Inv d 118 213 [])
    (c16 : ∀ (x1 : Int32) (x2 : Int32), lx_stL Inv d 119 217 [.int x1, .int x2])
    (c17 : ∀ (x1 : Int32), lx_stI Inv d 120 218 [.int x1])
    (c18 : ∀ (x1 : Int32) (x2 : Int32), lx_stL Inv d 121 221 [.int x1, .int x2])
    (c19 : lx_stL Inv d 122 224 [])
    (c20 : lx_stL Inv d 123 207 [])
    (c21 : ∀ (x1 : Int32) (x2 : Int32), lx_stI Inv d 124 208 [.int x1, .int x2])
    (c22 : ∀ (x1 : Int32) (x2 : Int64) (x3 : Int32), lx_stI Inv d 125 228 [.int x1, .long x2, .int x3])
    (c23 : ∀ (x1 : Int32), lx_stL Inv d 126 229 [.int x1])
    (c24 : ∀ (x1 : Int32), lx_stL Inv d 128 236 [.int x1])
    (c25 : ∀ (x1 : Int32), lx_stL Inv d 129 237 [.int x1])
    (c26 : ∀ (x1 : Int32) (x2 : Int32), lx_stI Inv d 130 244 [.int x1, .int x2])
    (c27 : ∀ (x1 : Int32) (x2 : Int32), lx_stL Inv d 131 245 [.int x1, .int x2])
    (c28 : ∀ (x1 : Int32), lx_stI Inv d 132 246 [.int x1])
    (c29 : ∀ (x1 : Int32), lx_stI Inv d 133 248 [.int x1])
    (c30 : ∀ (x1 : Int32), lx_stL Inv d 134 249 [.int x1])
    (c31 : ∀ (x1 : Int32), lx_stI Inv d 135 151 [.int x1])
    (c32 : ∀ (x1 : Int32), lx_stI Inv d 136 152 [.int x1])
    (c33 : ∀ (x1 : Int32), lx_stI Inv d 137 250 [.int x1])
    (c34 : lx_stI Inv d 138 251 []) {n : Nat} {xs : Nat → Int32} (hn : n ≤ 3072) :
    ∀ (k t : Nat) (z : Int) (h : AH), 0 ≤ z → z ≤ n → (n : Int) - z < 6 * k → 6 * (t : Int) ≤ z → Inv t h → h.2.2 28 = (100, n, fun j => .int (xs j)) → ∃ hf : AH, am_rn qL_law uL_law 3 (am_sem d) 18 [(0, .ref 28), (1, .ref 29), (2, .ref 113), (3, .int (zi z))] h = some (some (.int 1), hf) ∧ hf.1 = 140 ∧ hf.2.1 = 17062 := by
  intro k
  induction k with
  | zero => intro t z h z0 z1 z2 _ _ _; omega
  | succ k ih =>
    intro t z h z0 z1 z2 z3 hh hs
    obtain ⟨i1, i2, i3, i4⟩ := hI t h hh
    have S : lx_scr n xs h := ⟨i1, hs⟩
    rw [am_rn_eq _ _ _ (am_sem_mono d), eL_law_18, lx_len S]
    simp only [Option.bind_some]
    have hq : (zi (n : Int) - 6 < zi z) = ((n : Int) - 6 < z) := by
      rw [show (6 : Int32) = zi 6 from zi_lit 6, zi_sub, zi_lt (by omega) (by omega) (by omega) (by omega)]
    by_cases hz : (n : Int) - 6 < z
    · rw [if_pos (by rw [hq]; exact hz)]
      exact ⟨h, rfl, i1, i4⟩
    · rw [if_neg (by rw [hq]; exact hz)]
      have nxt : ∀ (t' : Nat) (h' : AH), 6 * (t' : Int) ≤ z + 6 → Inv t' h' → h'.2.2 28 = (100, n, fun j => .int (xs j)) → ∃ hf : AH, am_rn qL_law uL_law 3 (am_sem d) 1146 [(0, .ref 28), (1, .ref 29), (2, .ref 113), (3, .int (zi z))] h' = some (some (.int 1), hf) ∧ hf.1 = 140 ∧ hf.2.1 = 17062 := by
        intro t' h' ht hi' hs'
        rw [am_rn_eq _ _ _ (am_sem_mono d), eL_law_1146, show (6 : Int32) = zi 6 from zi_lit 6, zi_add]
        exact ih t' (z + 6) h' (by omega) (by omega) (by omega) ht hi' hs'
      have old : ∀ {j as h x h'}, am_sem d j as h = some (x, h') → h.1 = 140 → h.2.2 28 = (100, n, fun j => .int (xs j)) → h'.2.2 28 = (100, n, fun j => .int (xs j)) := by
        intro j as h x h' hc h1 h2
        rw [(ol_sem_mono d _ _ _ _ _ hc (by omega)).2 28 (by omega)]
        exact h2
      have ht : t < 512 := by omega
      have R1 : ∀ {h}, lx_scr n xs h → am_aI h 28 (zi z + 1) = some (xs (z + (1 : Nat)).toNat) := fun S => lx_at' S 1 z0 (by omega) hn (zi_lit 1)
      have R2 : ∀ {h}, lx_scr n xs h → am_aI h 28 (zi z + 2) = some (xs (z + (2 : Nat)).toNat) := fun S => lx_at' S 2 z0 (by omega) hn (zi_lit 2)
      have R3 : ∀ {h}, lx_scr n xs h → am_aI h 28 (zi z + 3) = some (xs (z + (3 : Nat)).toNat) := fun S => lx_at' S 3 z0 (by omega) hn (zi_lit 3)
      have R4 : ∀ {h}, lx_scr n xs h → am_aI h 28 (zi z + 4) = some (xs (z + (4 : Nat)).toNat) := fun S => lx_at' S 4 z0 (by omega) hn (zi_lit 4)
      have R5 : ∀ {h}, lx_scr n xs h → am_aI h 28 (zi z + 5) = some (xs (z + (5 : Nat)).toNat) := fun S => lx_at' S 5 z0 (by omega) hn (zi_lit 5)
      have doI : ∀ {a b : Nat} {as : List Value}, lx_stI Inv d a b as → ∃ v h1 h2, am_sem d a (.ref 29 :: as) h = some (some (.int v), h1) ∧ am_sem d b (.ref 113 :: as) h1 = some (some (.int v), h2) ∧ lx_scr n xs h1 ∧ (h1.2.2 113).1 = 10 ∧ Inv (t + 1) h2 ∧ h2.2.2 28 = (100, n, fun j => .int (xs j)) := by
        intro a b as hst
        obtain ⟨v, h1, h2, c1, c2, ⟨c3, c4⟩, c5⟩ := hst t h ht hh
        have s1 := old c1 i1 hs
        exact ⟨v, h1, h2, c1, c2, ⟨c3, s1⟩, c4, c5, old c2 c3 s1⟩
      have doL : ∀ {a b : Nat} {as : List Value}, lx_stL Inv d a b as → ∃ v h1 h2, am_sem d a (.ref 29 :: as) h = some (some (.long v), h1) ∧ am_sem d b (.ref 113 :: as) h1 = some (some (.long v), h2) ∧ lx_scr n xs h1 ∧ (h1.2.2 113).1 = 10 ∧ Inv (t + 1) h2 ∧ h2.2.2 28 = (100, n, fun j => .int (xs j)) := by
        intro a b as hst
        obtain ⟨v, h1, h2, c1, c2, ⟨c3, c4⟩, c5⟩ := hst t h ht hh
        have s1 := old c1 i1 hs
        exact ⟨v, h1, h2, c1, c2, ⟨c3, s1⟩, c4, c5, old c2 c3 s1⟩
      rw [lx_at S z0 (by omega) hn]
      simp only [Option.bind_some]
      by_cases q0 : (xs z.toNat &&& 63) = 0
      · rw [if_pos q0]
        simp only [R1 S, R2 S, R3 S, R4 S, R5 S, Option.bind_some, lx_k i1 (by decide) i2, cond_true]
        obtain ⟨v, h1, h2, e1, e2, e3, e4, e5, e6⟩ := doI (c0 _ _ _ _ _)
        rw [e1]
        simp only [am_cI, R1 e3, R2 e3, R3 e3, R4 e3, R5 e3, Option.bind_some, lx_k e3.1 (by decide) e4, cond_true]
        rw [e2]
        simp only [am_cI, lx_cmp, if_true]
        exact nxt (t + 1) h2 (by omega) e5 e6
      rw [if_neg q0]
      by_cases q1 : (xs z.toNat &&& 63) = 1
      · rw [if_pos q1]
        simp only [R1 S, R2 S, R3 S, R4 S, R5 S, Option.bind_some, lx_k i1 (by decide) i2, cond_true]
        obtain ⟨v, h1, h2, e1, e2, e3, e4, e5, e6⟩ := doI (c1 _)
        rw [e1]
        simp only [am_cI, R1 e3, R2 e3, R3 e3, R4 e3, R5 e3, Option.bind_some, lx_k e3.1 (by decide) e4, cond_true]
        rw [e2]
        simp only [am_cI, lx_cmp, if_true]
        exact nxt (t + 1) h2 (by omega) e5 e6
      rw [if_neg q1]
      by_cases q2 : (xs z.toNat &&& 63) = 2
      · rw [if_pos q2]
        simp only [R1 S, R2 S, R3 S, R4 S, R5 S, Option.bind_some, lx_k i1 (by decide) i2, cond_true]
        obtain ⟨v, h1, h2, e1, e2, e3, e4, e5, e6⟩ := doI (c2)
        rw [e1]
        simp only [am_cI, R1 e3, R2 e3, R3 e3, R4 e3, R5 e3, Option.bind_some, lx_k e3.1 (by decide) e4, cond_true]
        rw [e2]
        simp only [am_cI, lx_cmp, if_true]
        exact nxt (t + 1) h2 (by omega) e5 e6
      rw [if_neg q2]
      by_cases q3 : (xs z.toNat &&& 63) = 3
      · rw [if_pos q3]
        simp only [R1 S, R2 S, R3 S, R4 S, R5 S, Option.bind_some, lx_k i1 (by decide) i2, cond_true]
        obtain ⟨v, h1, h2, e1, e2, e3, e4, e5, e6⟩ := doI (c3)
        rw [e1]
        simp only [am_cI, R1 e3, R2 e3, R3 e3, R4 e3, R5 e3, Option.bind_some, lx_k e3.1 (by decide) e4, cond_true]
        rw [e2]
        simp only [am_cI, lx_cmp, if_true]
        exact nxt (t + 1) h2 (by omega) e5 e6
      rw [if_neg q3]
      by_cases q4 : (xs z.toNat &&& 63) = 4
      · rw [if_pos q4]
        simp only [R1 S, R2 S, R3 S, R4 S, R5 S, Option.bind_some, lx_k i1 (by decide) i2, cond_true]
        obtain ⟨v, h1, h2, e1, e2, e3, e4, e5, e6⟩ := doI (c4 _ _)
        rw [e1]
        simp only [am_cI, R1 e3, R2 e3, R3 e3, R4 e3, R5 e3, Option.bind_some, lx_k e3.1 (by decide) e4, cond_true]
        rw [e2]
        simp only [am_cI, lx_cmp, if_true]
        exact nxt (t + 1) h2 (by omega) e5 e6
      rw [if_neg q4]
      by_cases q5 : (xs z.toNat &&& 63) = 5
      · rw [if_pos q5]
        simp only [R1 S, R2 S, R3 S, R4 S, R5 S, Option.bind_some, lx_k i1 (by decide) i2, cond_true]
        obtain ⟨v, h1, h2, e1, e2, e3, e4, e5, e6⟩ := doI (c5 _ _)
        rw [e1]
        simp only [am_cI, R1 e3, R2 e3, R3 e3, R4 e3, R5 e3, Option.bind_some, lx_k e3.1 (by decide) e4, cond_true]
        rw [e2]
        simp only [am_cI, lx_cmp, if_true]
        exact nxt (t + 1) h2 (by omega) e5 e6
      rw [if_neg q5]
      by_cases q6 : (xs z.toNat &&& 63) = 6
      · rw [if_pos q6]
        simp only [R1 S, R2 S, R3 S, R4 S, R5 S, Option.bind_some, lx_k i1 (by decide) i2, cond_true]
        obtain ⟨v, h1, h2, e1, e2, e3, e4, e5, e6⟩ := doL (c6 _ _)
        rw [e1]
        simp only [am_cL, R1 e3, R2 e3, R3 e3, R4 e3, R5 e3, Option.bind_some, lx_k e3.1 (by decide) e4, cond_true]
        rw [e2]
        simp only [am_cL, lx_cmp, if_true]
        exact nxt (t + 1) h2 (by omega) e5 e6
      rw [if_neg q6]
      by_cases q7 : (xs z.toNat &&& 63) = 7
      · rw [if_pos q7]
        simp only [R1 S, R2 S, R3 S, R4 S, R5 S, Option.bind_some, lx_k i1 (by decide) i2, cond_true]
        obtain ⟨v, h1, h2, e1, e2, e3, e4, e5, e6⟩ := doI (c7 _ _)
        rw [e1]
        simp only [am_cI, R1 e3, R2 e3, R3 e3, R4 e3, R5 e3, Option.bind_some, lx_k e3.1 (by decide) e4, cond_true]
        rw [e2]
        simp only [am_cI, lx_cmp, if_true]
        exact nxt (t + 1) h2 (by omega) e5 e6
      rw [if_neg q7]
      by_cases q8 : (xs z.toNat &&& 63) = 8
      · rw [if_pos q8]
        simp only [R1 S, R2 S, R3 S, R4 S, R5 S, Option.bind_some, lx_k i1 (by decide) i2, cond_true]
        obtain ⟨v, h1, h2, e1, e2, e3, e4, e5, e6⟩ := doI (c8)
        rw [e1]
        simp only [am_cI, R1 e3, R2 e3, R3 e3, R4 e3, R5 e3, Option.bind_some, lx_k e3.1 (by decide) e4, cond_true]
        rw [e2]
        simp only [am_cI, lx_cmp, if_true]
        exact nxt (t + 1) h2 (by omega) e5 e6
      rw [if_neg q8]
      by_cases q9 : (xs z.toNat &&& 63) = 9
      · rw [if_pos q9]
        simp only [R1 S, R2 S, R3 S, R4 S, R5 S, Option.bind_some, lx_k i1 (by decide) i2, cond_true]
        obtain ⟨v, h1, h2, e1, e2, e3, e4, e5, e6⟩ := doI (c9 _ _ _)
        rw [e1]
        simp only [am_cI, R1 e3, R2 e3, R3 e3, R4 e3, R5 e3, Option.bind_some, lx_k e3.1 (by decide) e4, cond_true]
        rw [e2]
        simp only [am_cI, lx_cmp, if_true]
        exact nxt (t + 1) h2 (by omega) e5 e6
      rw [if_neg q9]
      by_cases q10 : (xs z.toNat &&& 63) = 10
      · rw [if_pos q10]
        simp only [R1 S, R2 S, R3 S, R4 S, R5 S, Option.bind_some, lx_k i1 (by decide) i2, cond_true]
        obtain ⟨v, h1, h2, e1, e2, e3, e4, e5, e6⟩ := doI (c10 _ _)
        rw [e1]
        simp only [am_cI, R1 e3, R2 e3, R3 e3, R4 e3, R5 e3, Option.bind_some, lx_k e3.1 (by decide) e4, cond_true]
        rw [e2]
        simp only [am_cI, lx_cmp, if_true]
        exact nxt (t + 1) h2 (by omega) e5 e6
      rw [if_neg q10]
      by_cases q11 : (xs z.toNat &&& 63) = 11
      · rw [if_pos q11]
        simp only [R1 S, R2 S, R3 S, R4 S, R5 S, Option.bind_some, lx_k i1 (by decide) i2, cond_true]
        obtain ⟨v, h1, h2, e1, e2, e3, e4, e5, e6⟩ := doL (c11)
        rw [e1]
        simp only [am_cL, R1 e3, R2 e3, R3 e3, R4 e3, R5 e3, Option.bind_some, lx_k e3.1 (by decide) e4, cond_true]
        rw [e2]
        simp only [am_cL, lx_cmp, if_true]
        exact nxt (t + 1) h2 (by omega) e5 e6
      rw [if_neg q11]
      by_cases q12 : (xs z.toNat &&& 63) = 12
      · rw [if_pos q12]
        simp only [R1 S, R2 S, R3 S, R4 S, R5 S, Option.bind_some, lx_k i1 (by decide) i2, cond_true]
        obtain ⟨v, h1, h2, e1, e2, e3, e4, e5, e6⟩ := doL (c12 _ _)
        rw [e1]
        simp only [am_cL, R1 e3, R2 e3, R3 e3, R4 e3, R5 e3, Option.bind_some, lx_k e3.1 (by decide) e4, cond_true]
        rw [e2]
        simp only [am_cL, lx_cmp, if_true]
        exact nxt (t + 1) h2 (by omega) e5 e6
      rw [if_neg q12]
      by_cases q13 : (xs z.toNat &&& 63) = 13
      · rw [if_pos q13]
        simp only [R1 S, R2 S, R3 S, R4 S, R5 S, Option.bind_some, lx_k i1 (by decide) i2, cond_true]
        obtain ⟨v, h1, h2, e1, e2, e3, e4, e5, e6⟩ := doL (c13 _)
        rw [e1]
        simp only [am_cL, R1 e3, R2 e3, R3 e3, R4 e3, R5 e3, Option.bind_some, lx_k e3.1 (by decide) e4, cond_true]
        rw [e2]
        simp only [am_cL, lx_cmp, if_true]
        exact nxt (t + 1) h2 (by omega) e5 e6
      rw [if_neg q13]
      by_cases q14 : (xs z.toNat &&& 63) = 14
      · rw [if_pos q14]
        simp only [R1 S, R2 S, R3 S, R4 S, R5 S, Option.bind_some, lx_k i1 (by decide) i2, cond_true]
        obtain ⟨v, h1, h2, e1, e2, e3, e4, e5, e6⟩ := doI (c14 _)
        rw [e1]
        simp only [am_cI, R1 e3, R2 e3, R3 e3, R4 e3, R5 e3, Option.bind_some, lx_k e3.1 (by decide) e4, cond_true]
        rw [e2]
        simp only [am_cI, lx_cmp, if_true]
        exact nxt (t + 1) h2 (by omega) e5 e6
      rw [if_neg q14]
      by_cases q15 : (xs z.toNat &&& 63) = 15
      · rw [if_pos q15]
        simp only [R1 S, R2 S, R3 S, R4 S, R5 S, Option.bind_some, lx_k i1 (by decide) i2, cond_true]
        obtain ⟨v, h1, h2, e1, e2, e3, e4, e5, e6⟩ := doI (c15)
        rw [e1]
        simp only [am_cI, R1 e3, R2 e3, R3 e3, R4 e3, R5 e3, Option.bind_some, lx_k e3.1 (by decide) e4, cond_true]
        rw [e2]
        simp only [am_cI, lx_cmp, if_true]
        exact nxt (t + 1) h2 (by omega) e5 e6
      rw [if_neg q15]
      by_cases q16 : (xs z.toNat &&& 63) = 16
      · rw [if_pos q16]
        simp only [R1 S, R2 S, R3 S, R4 S, R5 S, Option.bind_some, lx_k i1 (by decide) i2, cond_true]
        obtain ⟨v, h1, h2, e1, e2, e3, e4, e5, e6⟩ := doL (c16 _ _)
        rw [e1]
        simp only [am_cL, R1 e3, R2 e3, R3 e3, R4 e3, R5 e3, Option.bind_some, lx_k e3.1 (by decide) e4, cond_true]
        rw [e2]
        simp only [am_cL, lx_cmp, if_true]
        exact nxt (t + 1) h2 (by omega) e5 e6
      rw [if_neg q16]
      by_cases q17 : (xs z.toNat &&& 63) = 17
      · rw [if_pos q17]
        simp only [R1 S, R2 S, R3 S, R4 S, R5 S, Option.bind_some, lx_k i1 (by decide) i2, cond_true]
        obtain ⟨v, h1, h2, e1, e2, e3, e4, e5, e6⟩ := doI (c17 _)
        rw [e1]
        simp only [am_cI, R1 e3, R2 e3, R3 e3, R4 e3, R5 e3, Option.bind_some, lx_k e3.1 (by decide) e4, cond_true]
        rw [e2]
        simp only [am_cI, lx_cmp, if_true]
        exact nxt (t + 1) h2 (by omega) e5 e6
      rw [if_neg q17]
      by_cases q18 : (xs z.toNat &&& 63) = 18
      · rw [if_pos q18]
        simp only [R1 S, R2 S, R3 S, R4 S, R5 S, Option.bind_some, lx_k i1 (by decide) i2, cond_true]
        obtain ⟨v, h1, h2, e1, e2, e3, e4, e5, e6⟩ := doL (c18 _ _)
        rw [e1]
        simp only [am_cL, R1 e3, R2 e3, R3 e3, R4 e3, R5 e3, Option.bind_some, lx_k e3.1 (by decide) e4, cond_true]
        rw [e2]
        simp only [am_cL, lx_cmp, if_true]
        exact nxt (t + 1) h2 (by omega) e5 e6
      rw [if_neg q18]
      by_cases q19 : (xs z.toNat &&& 63) = 19
      · rw [if_pos q19]
        simp only [R1 S, R2 S, R3 S, R4 S, R5 S, Option.bind_some, lx_k i1 (by decide) i2, cond_true]
        obtain ⟨v, h1, h2, e1, e2, e3, e4, e5, e6⟩ := doL (c19)
        rw [e1]
        simp only [am_cL, R1 e3, R2 e3, R3 e3, R4 e3, R5 e3, Option.bind_some, lx_k e3.1 (by decide) e4, cond_true]
        rw [e2]
        simp only [am_cL, lx_cmp, if_true]
        exact nxt (t + 1) h2 (by omega) e5 e6
      rw [if_neg q19]
      by_cases q20 : (xs z.toNat &&& 63) = 20
      · rw [if_pos q20]
        simp only [R1 S, R2 S, R3 S, R4 S, R5 S, Option.bind_some, lx_k i1 (by decide) i2, cond_true]
        obtain ⟨v, h1, h2, e1, e2, e3, e4, e5, e6⟩ := doL (c20)
        rw [e1]
        simp only [am_cL, R1 e3, R2 e3, R3 e3, R4 e3, R5 e3, Option.bind_some, lx_k e3.1 (by decide) e4, cond_true]
        rw [e2]
        simp only [am_cL, lx_cmp, if_true]
        exact nxt (t + 1) h2 (by omega) e5 e6
      rw [if_neg q20]
      by_cases q21 : (xs z.toNat &&& 63) = 21
      · rw [if_pos q21]
        simp only [R1 S, R2 S, R3 S, R4 S, R5 S, Option.bind_some, lx_k i1 (by decide) i2, cond_true]
        obtain ⟨v, h1, h2, e1, e2, e3, e4, e5, e6⟩ := doI (c21 _ _)
        rw [e1]
        simp only [am_cI, R1 e3, R2 e3, R3 e3, R4 e3, R5 e3, Option.bind_some, lx_k e3.1 (by decide) e4, cond_true]
        rw [e2]
        simp only [am_cI, lx_cmp, if_true]
        exact nxt (t + 1) h2 (by omega) e5 e6
      rw [if_neg q21]
      by_cases q22 : (xs z.toNat &&& 63) = 22
      · rw [if_pos q22]
        simp only [R1 S, R2 S, R3 S, R4 S, R5 S, Option.bind_some, lx_k i1 (by decide) i2, cond_true]
        obtain ⟨v, h1, h2, e1, e2, e3, e4, e5, e6⟩ := doI (c22 _ _ _)
        rw [e1]
        simp only [am_cI, R1 e3, R2 e3, R3 e3, R4 e3, R5 e3, Option.bind_some, lx_k e3.1 (by decide) e4, cond_true]
        rw [e2]
        simp only [am_cI, lx_cmp, if_true]
        exact nxt (t + 1) h2 (by omega) e5 e6
      rw [if_neg q22]
      by_cases q23 : (xs z.toNat &&& 63) = 23
      · rw [if_pos q23]
        simp only [R1 S, R2 S, R3 S, R4 S, R5 S, Option.bind_some, lx_k i1 (by decide) i2, cond_true]
        obtain ⟨v, h1, h2, e1, e2, e3, e4, e5, e6⟩ := doL (c23 _)
        rw [e1]
        simp only [am_cL, R1 e3, R2 e3, R3 e3, R4 e3, R5 e3, Option.bind_some, lx_k e3.1 (by decide) e4, cond_true]
        rw [e2]
        simp only [am_cL, lx_cmp, if_true]
        exact nxt (t + 1) h2 (by omega) e5 e6
      rw [if_neg q23]
      by_cases q24 : (xs z.toNat &&& 63) = 24
      · rw [if_pos q24]
        simp only [R1 S, R2 S, R3 S, R4 S, R5 S, Option.bind_some, lx_k i1 (by decide) i2, cond_true]
        obtain ⟨v, h1, h2, e1, e2, e3, e4, e5, e6⟩ := doL (c24 _)
        rw [e1]
        simp only [am_cL, R1 e3, R2 e3, R3 e3, R4 e3, R5 e3, Option.bind_some, lx_k e3.1 (by decide) e4, cond_true]
        rw [e2]
        simp only [am_cL, lx_cmp, if_true]
        exact nxt (t + 1) h2 (by omega) e5 e6
      rw [if_neg q24]
      by_cases q25 : (xs z.toNat &&& 63) = 25
      · rw [if_pos q25]
        simp only [R1 S, R2 S, R3 S, R4 S, R5 S, Option.bind_some, lx_k i1 (by decide) i2, cond_true]
        obtain ⟨v, h1, h2, e1, e2, e3, e4, e5, e6⟩ := doL (c25 _)
        rw [e1]
        simp only [am_cL, R1 e3, R2 e3, R3 e3, R4 e3, R5 e3, Option.bind_some, lx_k e3.1 (by decide) e4, cond_true]
        rw [e2]
        simp only [am_cL, lx_cmp, if_true]
        exact nxt (t + 1) h2 (by omega) e5 e6
      rw [if_neg q25]
      by_cases q26 : (xs z.toNat &&& 63) = 26
      · rw [if_pos q26]
        simp only [R1 S, R2 S, R3 S, R4 S, R5 S, Option.bind_some, lx_k i1 (by decide) i2, cond_true]
        obtain ⟨v, h1, h2, e1, e2, e3, e4, e5, e6⟩ := doI (c26 _ _)
        rw [e1]
        simp only [am_cI, R1 e3, R2 e3, R3 e3, R4 e3, R5 e3, Option.bind_some, lx_k e3.1 (by decide) e4, cond_true]
        rw [e2]
        simp only [am_cI, lx_cmp, if_true]
        exact nxt (t + 1) h2 (by omega) e5 e6
      rw [if_neg q26]
      by_cases q27 : (xs z.toNat &&& 63) = 27
      · rw [if_pos q27]
        simp only [R1 S, R2 S, R3 S, R4 S, R5 S, Option.bind_some, lx_k i1 (by decide) i2, cond_true]
        obtain ⟨v, h1, h2, e1, e2, e3, e4, e5, e6⟩ := doL (c27 _ _)
        rw [e1]
        simp only [am_cL, R1 e3, R2 e3, R3 e3, R4 e3, R5 e3, Option.bind_some, lx_k e3.1 (by decide) e4, cond_true]
        rw [e2]
        simp only [am_cL, lx_cmp, if_true]
        exact nxt (t + 1) h2 (by omega) e5 e6
      rw [if_neg q27]
      by_cases q28 : (xs z.toNat &&& 63) = 28
      · rw [if_pos q28]
        simp only [R1 S, R2 S, R3 S, R4 S, R5 S, Option.bind_some, lx_k i1 (by decide) i2, cond_true]
        obtain ⟨v, h1, h2, e1, e2, e3, e4, e5, e6⟩ := doI (c28 _)
        rw [e1]
        simp only [am_cI, R1 e3, R2 e3, R3 e3, R4 e3, R5 e3, Option.bind_some, lx_k e3.1 (by decide) e4, cond_true]
        rw [e2]
        simp only [am_cI, lx_cmp, if_true]
        exact nxt (t + 1) h2 (by omega) e5 e6
      rw [if_neg q28]
      by_cases q29 : (xs z.toNat &&& 63) = 29
      · rw [if_pos q29]
        simp only [R1 S, R2 S, R3 S, R4 S, R5 S, Option.bind_some, lx_k i1 (by decide) i2, cond_true]
        obtain ⟨v, h1, h2, e1, e2, e3, e4, e5, e6⟩ := doI (c29 _)
        rw [e1]
        simp only [am_cI, R1 e3, R2 e3, R3 e3, R4 e3, R5 e3, Option.bind_some, lx_k e3.1 (by decide) e4, cond_true]
        rw [e2]
        simp only [am_cI, lx_cmp, if_true]
        exact nxt (t + 1) h2 (by omega) e5 e6
      rw [if_neg q29]
      by_cases q30 : (xs z.toNat &&& 63) = 30
      · rw [if_pos q30]
        simp only [R1 S, R2 S, R3 S, R4 S, R5 S, Option.bind_some, lx_k i1 (by decide) i2, cond_true]
        obtain ⟨v, h1, h2, e1, e2, e3, e4, e5, e6⟩ := doL (c30 _)
        rw [e1]
        simp only [am_cL, R1 e3, R2 e3, R3 e3, R4 e3, R5 e3, Option.bind_some, lx_k e3.1 (by decide) e4, cond_true]
        rw [e2]
        simp only [am_cL, lx_cmp, if_true]
        exact nxt (t + 1) h2 (by omega) e5 e6
      rw [if_neg q30]
      by_cases q31 : (xs z.toNat &&& 63) = 31
      · rw [if_pos q31]
        simp only [R1 S, R2 S, R3 S, R4 S, R5 S, Option.bind_some, lx_k i1 (by decide) i2, cond_true]
        obtain ⟨v, h1, h2, e1, e2, e3, e4, e5, e6⟩ := doI (c31 _)
        rw [e1]
        simp only [am_cI, R1 e3, R2 e3, R3 e3, R4 e3, R5 e3, Option.bind_some, lx_k e3.1 (by decide) e4, cond_true]
        rw [e2]
        simp only [am_cI, lx_cmp, if_true]
        exact nxt (t + 1) h2 (by omega) e5 e6
      rw [if_neg q31]
      by_cases q32 : (xs z.toNat &&& 63) = 32
      · rw [if_pos q32]
        simp only [R1 S, R2 S, R3 S, R4 S, R5 S, Option.bind_some, lx_k i1 (by decide) i2, cond_true]
        obtain ⟨v, h1, h2, e1, e2, e3, e4, e5, e6⟩ := doI (c32 _)
        rw [e1]
        simp only [am_cI, R1 e3, R2 e3, R3 e3, R4 e3, R5 e3, Option.bind_some, lx_k e3.1 (by decide) e4, cond_true]
        rw [e2]
        simp only [am_cI, lx_cmp, if_true]
        exact nxt (t + 1) h2 (by omega) e5 e6
      rw [if_neg q32]
      by_cases q33 : (xs z.toNat &&& 63) = 33
      · rw [if_pos q33]
        simp only [R1 S, R2 S, R3 S, R4 S, R5 S, Option.bind_some, lx_k i1 (by decide) i2, cond_true]
        obtain ⟨v, h1, h2, e1, e2, e3, e4, e5, e6⟩ := doI (c33 _)
        rw [e1]
        simp only [am_cI, R1 e3, R2 e3, R3 e3, R4 e3, R5 e3, Option.bind_some, lx_k e3.1 (by decide) e4, cond_true]
        rw [e2]
        simp only [am_cI, lx_cmp, if_true]
        exact nxt (t + 1) h2 (by omega) e5 e6
      rw [if_neg q33]
      by_cases q34 : (xs z.toNat &&& 63) = 34
      · rw [if_pos q34]
        simp only [R1 S, R2 S, R3 S, R4 S, R5 S, Option.bind_some, lx_k i1 (by decide) i2, cond_true]
        obtain ⟨v, h1, h2, e1, e2, e3, e4, e5, e6⟩ := doI (c34)
        rw [e1]
        simp only [am_cI, R1 e3, R2 e3, R3 e3, R4 e3, R5 e3, Option.bind_some, lx_k e3.1 (by decide) e4, cond_true]
        rw [e2]
        simp only [am_cI, lx_cmp, if_true]
        exact nxt (t + 1) h2 (by omega) e5 e6
      rw [if_neg q34]
      exact nxt t h (by omega) hh hs
/-- the whole law: from the start on -/
theorem lx_law (Inv : Nat → AH → Prop) (hI : ∀ t h, Inv t h → h.1 = 140 ∧ (h.2.2 29).1 = 9 ∧ (h.2.2 113).1 = 10 ∧ h.2.1 = 17062) (h0 : ∀ h, px_ok 107 h → (∀ q ∈ px_facts, px_n h q.1 q.2.1 = q.2.2) → Inv 0 h) {d : Nat} (hd : 6 ≤ d) (hdm : ∀ {k : Nat} {j as h y}, am_sem k j as h = some y → k ≤ d → am_sem d j as h = some y)
    (c0 : ∀ (x1 : Int32) (x2 : Int32) (x3 : Int32) (x4 : Int32) (x5 : Int32), lx_stI Inv d 102 159 [.int x1, .int x2, .int x3, .int x4, .int x5])
    (c1 : ∀ (x1 : Int32), lx_stI Inv d 104 160 [.int x1])
    (c2 : lx_stI Inv d 105 179 [])
    (c3 : lx_stI Inv d 106 180 [])
    (c4 : ∀ (x1 : Int32) (x2 : Int32), lx_stI Inv d 107 193 [.int x1, .int x2])
    (c5 : ∀ (x1 : Int32) (x2 : Int32), lx_stI Inv d 108 194 [.int x1, .int x2])
    (c6 : ∀ (x1 : Int32) (x2 : Int32), lx_stL Inv d 109 195 [.int x1, .int x2])
    (c7 : ∀ (x1 : Int32) (x2 : Int32), lx_stI Inv d 110 196 [.int x1, .int x2])
    (c8 : lx_stI Inv d 111 197 [])
    (c9 : ∀ (x1 : Int32) (x2 : Int32) (x3 : Int32), lx_stI Inv d 112 198 [.int x1, .int x2, .int x3])
    (c10 : ∀ (x1 : Int32) (x2 : Int32), lx_stI Inv d 113 199 [.int x1, .int x2])
    (c11 : lx_stL Inv d 114 205 [])
    (c12 : ∀ (x1 : Int32) (x2 : Int32), lx_stL Inv d 115 206 [.int x1, .int x2])
    (c13 : ∀ (x1 : Int32), lx_stL Inv d 116 211 [.int x1])
    (c14 : ∀ (x1 : Int32), lx_stI Inv d 117 212 [.int x1])
    (c15 : lx_stI Inv d 118 213 [])
    (c16 : ∀ (x1 : Int32) (x2 : Int32), lx_stL Inv d 119 217 [.int x1, .int x2])
    (c17 : ∀ (x1 : Int32), lx_stI Inv d 120 218 [.int x1])
    (c18 : ∀ (x1 : Int32) (x2 : Int32), lx_stL Inv d 121 221 [.int x1, .int x2])
    (c19 : lx_stL Inv d 122 224 [])
    (c20 : lx_stL Inv d 123 207 [])
    (c21 : ∀ (x1 : Int32) (x2 : Int32), lx_stI Inv d 124 208 [.int x1, .int x2])
    (c22 : ∀ (x1 : Int32) (x2 : Int64) (x3 : Int32), lx_stI Inv d 125 228 [.int x1, .long x2, .int x3])
    (c23 : ∀ (x1 : Int32), lx_stL Inv d 126 229 [.int x1])
    (c24 : ∀ (x1 : Int32), lx_stL Inv d 128 236 [.int x1])
    (c25 : ∀ (x1 : Int32), lx_stL Inv d 129 237 [.int x1])
    (c26 : ∀ (x1 : Int32) (x2 : Int32), lx_stI Inv d 130 244 [.int x1, .int x2])
    (c27 : ∀ (x1 : Int32) (x2 : Int32), lx_stL Inv d 131 245 [.int x1, .int x2])
    (c28 : ∀ (x1 : Int32), lx_stI Inv d 132 246 [.int x1])
    (c29 : ∀ (x1 : Int32), lx_stI Inv d 133 248 [.int x1])
    (c30 : ∀ (x1 : Int32), lx_stL Inv d 134 249 [.int x1])
    (c31 : ∀ (x1 : Int32), lx_stI Inv d 135 151 [.int x1])
    (c32 : ∀ (x1 : Int32), lx_stI Inv d 136 152 [.int x1])
    (c33 : ∀ (x1 : Int32), lx_stI Inv d 137 250 [.int x1])
    (c34 : lx_stI Inv d 138 251 []) (n : Nat) (xs : Nat → Int32) (hn : n ≤ 3072) : ∃ hf : AH, am_rn qL_law uL_law 3 (am_sem d) 0 [(0, .ref 28)] (am_h0 n xs) = some (some (.int 1), hf) ∧ hf.1 ≤ 600000 ∧ hf.2.1 ≤ 7302250 := by
  obtain ⟨b1, b2, b3, b4, b5, b6⟩ := px_begin n xs
  rw [am_rn_eq _ _ _ (am_sem_mono d), eL_law_0]
  rw [show am_sem d 101 [.ref (am_h0 n xs).1] (am_new (am_h0 n xs) (9, 16, fun j => am_dflt (am_fty 9 j))) = some (none, px_h1 n xs) from hdm b1 hd]
  simp only [am_cV]
  rw [b2]
  rw [show am_sem d 150 [.ref 113] (am_new (px_h1 n xs) (10, 49, fun j => am_dflt (am_fty 10 j))) = some (none, px_h2 n xs) from hdm b3 hd]
  simp only []
  obtain ⟨hf, e1, e2, e3⟩ := lx_loop Inv hI c0 c1 c2 c3 c4 c5 c6 c7 c8 c9 c10 c11 c12 c13 c14 c15 c16 c17 c18 c19 c20 c21 c22 c23 c24 c25 c26 c27 c28 c29 c30 c31 c32 c33 c34 hn (n + 1) 0 0 (px_h2 n xs) (by omega) (by omega) (by omega) (by omega) (h0 _ b4 b6) b5
  exact ⟨hf, e1, by omega, by omega⟩
