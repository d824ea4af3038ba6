/-! THE LAW, written by a program (gen_fn.py) -/
def f287_a (X : X2) (x1 : Int) (s2 : S2) : Option ((Int × S2) ⊕ ((S2) ⊕ ((S2) ⊕ ((S2) ⊕ ((S2) ⊕ ((S2) ⊕ ((S2) ⊕ ((S2) ⊕ ((S2) ⊕ ((S2) ⊕ ((S2) ⊕ ((S2) ⊕ ((S2) ⊕ ((S2) ⊕ ((S2) ⊕ ((S2) ⊕ ((S2) ⊕ ((S2) ⊕ ((S2) ⊕ ((S2) ⊕ ((S2) ⊕ ((S2) ⊕ ((S2) ⊕ ((S2) ⊕ ((S2) ⊕ ((S2) ⊕ ((S2) ⊕ ((S2) ⊕ ((S2) ⊕ ((S2) ⊕ ((S2) ⊕ ((S2) ⊕ ((S2) ⊕ ((S2) ⊕ ((S2) ⊕ (S2)))))))))))))))))))))))))))))))))))) := if (jsub ((X.1 : Nat) : Int) 6) < x1 then (some (.inr (.inr (.inr (.inr (.inr (.inr (.inr (.inr (.inr (.inr (.inr (.inr (.inr (.inr (.inr (.inr (.inr (.inr (.inr (.inr (.inr (.inr (.inr (.inr (.inr (.inr (.inr (.inr (.inr (.inr (.inr (.inr (.inr (.inr (.inr s2)))))))))))))))))))))))))))))))))))) else lds X x1 fun v3 => if (jand v3 63) = 0 then (lds X (jadd x1 1) fun v4 => lds X (jadd x1 2) fun v5 => lds X (jadd x1 3) fun v6 => lds X (jadd x1 4) fun v7 => lds X (jadd x1 5) fun v8 => cR (f14 v4 v5 v6 v7 v8 s2) fun r9 s10 => lds X (jadd x1 1) fun v11 => lds X (jadd x1 2) fun v12 => lds X (jadd x1 3) fun v13 => lds X (jadd x1 4) fun v14 => lds X (jadd x1 5) fun v15 => cR (f156 v11 v12 v13 v14 v15 s10) fun r16 s17 => if r9 = r16 then (bnd (jadd x1 6) fun v18 => some (.inl (v18, s17))) else some (.inr (.inl s17))) else if (jand v3 63) = 1 then (lds X (jadd x1 1) fun v19 => cR (f17 v19 s2) fun r20 s21 => lds X (jadd x1 1) fun v22 => cR (f158 v22 s21) fun r23 s24 => if r20 = r23 then (bnd (jadd x1 6) fun v25 => some (.inl (v25, s24))) else some (.inr (.inr (.inl s24)))) else if (jand v3 63) = 2 then (cR (f18 s2) fun r26 s27 => cR (f159 s27) fun r28 s29 => if r26 = r28 then (bnd (jadd x1 6) fun v30 => some (.inl (v30, s29))) else some (.inr (.inr (.inr (.inl s29))))) else if (jand v3 63) = 3 then (cR (f59 s2) fun r31 s32 => cR (f181 s32) fun r33 s34 => if r31 = r33 then (bnd (jadd x1 6) fun v35 => some (.inl (v35, s34))) else some (.inr (.inr (.inr (.inr (.inl s34)))))) else if (jand v3 63) = 4 then (lds X (jadd x1 1) fun v36 => cR (f71 v36 s2) fun r37 s38 => lds X (jadd x1 1) fun v39 => cR (f196 v39 s38) fun r40 s41 => if r37 = r40 then (bnd (jadd x1 6) fun v42 => some (.inl (v42, s41))) else some (.inr (.inr (.inr (.inr (.inr (.inl s41))))))) else if (jand v3 63) = 5 then (lds X (jadd x1 1) fun v43 => lds X (jadd x1 2) fun v44 => cR (f73 v43 v44 s2) fun r45 s46 => lds X (jadd x1 1) fun v47 => lds X (jadd x1 2) fun v48 => cR (f197 v47 v48 s46) fun r49 s50 => if r45 = r49 then (bnd (jadd x1 6) fun v51 => some (.inl (v51, s50))) else some (.inr (.inr (.inr (.inr (.inr (.inr (.inl s50)))))))) else if (jand v3 63) = 6 then (lds X (jadd x1 1) fun v52 => lds X (jadd x1 2) fun v53 => cR (f88 v52 v53 s2) fun r54 s55 => lds X (jadd x1 1) fun v56 => lds X (jadd x1 2) fun v57 => cR (f209 v56 v57 s55) fun r58 s59 => if r54 = r58 then (bnd (jadd x1 6) fun v60 => some (.inl (v60, s59))) else some (.inr (.inr (.inr (.inr (.inr (.inr (.inr (.inl s59))))))))) else if (jand v3 63) = 7 then (lds X (jadd x1 1) fun v61 => lds X (jadd x1 2) fun v62 => cP (f91 v61 v62 s2) fun r63 => lds X (jadd x1 1) fun v64 => lds X (jadd x1 2) fun v65 => cP (f213 v64 v65 s2) fun r66 => if r63 = r66 then (bnd (jadd x1 6) fun v67 => some (.inl (v67, s2))) else some (.inr (.inr (.inr (.inr (.inr (.inr (.inr (.inr (.inl s2)))))))))) else if (jand v3 63) = 8 then (cR (f92 s2) fun r68 s69 => cR (f219 s69) fun r70 s71 => if r68 = r70 then (bnd (jadd x1 6) fun v72 => some (.inl (v72, s71))) else some (.inr (.inr (.inr (.inr (.inr (.inr (.inr (.inr (.inr (.inl s71))))))))))) else if (jand v3 63) = 9 then (lds X (jadd x1 1) fun v73 => lds X (jadd x1 2) fun v74 => cR (f96 v73 v74 s2) fun r75 s76 => lds X (jadd x1 1) fun v77 => lds X (jadd x1 2) fun v78 => cR (f223 v77 v78 s76) fun r79 s80 => if r75 = r79 then (bnd (jadd x1 6) fun v81 => some (.inl (v81, s80))) else some (.inr (.inr (.inr (.inr (.inr (.inr (.inr (.inr (.inr (.inr (.inl s80)))))))))))) else if (jand v3 63) = 10 then (lds X (jadd x1 1) fun v82 => cR (f97 v82 s2) fun r83 s84 => lds X (jadd x1 1) fun v85 => cR (f226 v85 s84) fun r86 s87 => if r83 = r86 then (bnd (jadd x1 6) fun v88 => some (.inl (v88, s87))) else some (.inr (.inr (.inr (.inr (.inr (.inr (.inr (.inr (.inr (.inr (.inr (.inl s87))))))))))))) else if (jand v3 63) = 11 then (lds X (jadd x1 1) fun v89 => cR (f100 v89 s2) fun r90 s91 => lds X (jadd x1 1) fun v92 => cR (f228 v92 s91) fun r93 s94 => if r90 = r93 then (bnd (jadd x1 6) fun v95 => some (.inl (v95, s94))) else some (.inr (.inr (.inr (.inr (.inr (.inr (.inr (.inr (.inr (.inr (.inr (.inr (.inl s94)))))))))))))) else if (jand v3 63) = 12 then (lds X (jadd x1 1) fun v96 => cR (f101 v96 s2) fun r97 s98 => lds X (jadd x1 1) fun v99 => cR (f229 v99 s98) fun r100 s101 => if r97 = r100 then (bnd (jadd x1 6) fun v102 => some (.inl (v102, s101))) else some (.inr (.inr (.inr (.inr (.inr (.inr (.inr (.inr (.inr (.inr (.inr (.inr (.inr (.inl s101))))))))))))))) else if (jand v3 63) = 13 then (lds X (jadd x1 1) fun v103 => cR (f103 v103 s2) fun r104 s105 => lds X (jadd x1 1) fun v106 => cR (f230 v106 s105) fun r107 s108 => if r104 = r107 then (bnd (jadd x1 6) fun v109 => some (.inl (v109, s108))) else some (.inr (.inr (.inr (.inr (.inr (.inr (.inr (.inr (.inr (.inr (.inr (.inr (.inr (.inr (.inl s108)))))))))))))))) else if (jand v3 63) = 14 then (cR (f104 s2) fun r110 s111 => cR (f215 s111) fun r112 s113 => if r110 = r112 then (bnd (jadd x1 6) fun v114 => some (.inl (v114, s113))) else some (.inr (.inr (.inr (.inr (.inr (.inr (.inr (.inr (.inr (.inr (.inr (.inr (.inr (.inr (.inr (.inl s113))))))))))))))))) else if (jand v3 63) = 15 then (lds X (jadd x1 1) fun v115 => lds X (jadd x1 2) fun v116 => lds X (jadd x1 3) fun v117 => cR (f106 v115 v116 v117 s2) fun r118 s119 => lds X (jadd x1 1) fun v120 => lds X (jadd x1 2) fun v121 => lds X (jadd x1 3) fun v122 => cR (f231 v120 v121 v122 s119) fun r123 s124 => if r118 = r123 then (bnd (jadd x1 6) fun v125 => some (.inl (v125, s124))) else some (.inr (.inr (.inr (.inr (.inr (.inr (.inr (.inr (.inr (.inr (.inr (.inr (.inr (.inr (.inr (.inr (.inl s124)))))))))))))))))) else if (jand v3 63) = 16 then (lds X (jadd x1 1) fun v126 => cR (f108 v126 s2) fun r127 s128 => lds X (jadd x1 1) fun v129 => cR (f238 v129 s128) fun r130 s131 => if r127 = r130 then (bnd (jadd x1 6) fun v132 => some (.inl (v132, s131))) else some (.inr (.inr (.inr (.inr (.inr (.inr (.inr (.inr (.inr (.inr (.inr (.inr (.inr (.inr (.inr (.inr (.inr (.inl s131))))))))))))))))))) else if (jand v3 63) = 17 then (lds X (jadd x1 1) fun v133 => lds X (jadd x1 2) fun v134 => lds X (jadd x1 3) fun v135 => cR (f110 v133 v134 v135 s2) fun r136 s137 => lds X (jadd x1 1) fun v138 => lds X (jadd x1 2) fun v139 => lds X (jadd x1 3) fun v140 => cR (f239 v138 v139 v140 s137) fun r141 s142 => if r136 = r141 then (bnd (jadd x1 6) fun v143 => some (.inl (v143, s142))) else some (.inr (.inr (.inr (.inr (.inr (.inr (.inr (.inr (.inr (.inr (.inr (.inr (.inr (.inr (.inr (.inr (.inr (.inr (.inl s142)))))))))))))))))))) else if (jand v3 63) = 18 then (lds X (jadd x1 1) fun v144 => lds X (jadd x1 2) fun v145 => lds X (jadd x1 3) fun v146 => lds X (jadd x1 4) fun v147 => cR (f117 v144 v145 v146 v147 s2) fun r148 s149 => lds X (jadd x1 1) fun v150 => lds X (jadd x1 2) fun v151 => lds X (jadd x1 3) fun v152 => lds X (jadd x1 4) fun v153 => cR (f242 v150 v151 v152 v153 s149) fun r154 s155 => if r148 = r154 then (bnd (jadd x1 6) fun v156 => some (.inl (v156, s155))) else some (.inr (.inr (.inr (.inr (.inr (.inr (.inr (.inr (.inr (.inr (.inr (.inr (.inr (.inr (.inr (.inr (.inr (.inr (.inr (.inl s155))))))))))))))))))))) else if (jand v3 63) = 19 then (lds X (jadd x1 1) fun v157 => lds X (jadd x1 2) fun v158 => cR (f122 v157 v158 s2) fun r159 s160 => lds X (jadd x1 1) fun v161 => lds X (jadd x1 2) fun v162 => cR (f247 v161 v162 s160) fun r163 s164 => if r159 = r163 then (bnd (jadd x1 6) fun v165 => some (.inl (v165, s164))) else some (.inr (.inr (.inr (.inr (.inr (.inr (.inr (.inr (.inr (.inr (.inr (.inr (.inr (.inr (.inr (.inr (.inr (.inr (.inr (.inr (.inl s164)))))))))))))))))))))) else if (jand v3 63) = 20 then (lds X (jadd x1 1) fun v166 => lds X (jadd x1 2) fun v167 => lds X (jadd x1 3) fun v168 => cR (f127 v166 v167 v168 s2) fun r169 s170 => lds X (jadd x1 1) fun v171 => lds X (jadd x1 2) fun v172 => lds X (jadd x1 3) fun v173 => cR (f249 v171 v172 v173 s170) fun r174 s175 => if r169 = r174 then (bnd (jadd x1 6) fun v176 => some (.inl (v176, s175))) else some (.inr (.inr (.inr (.inr (.inr (.inr (.inr (.inr (.inr (.inr (.inr (.inr (.inr (.inr (.inr (.inr (.inr (.inr (.inr (.inr (.inr (.inl s175))))))))))))))))))))))) else if (jand v3 63) = 21 then (lds X (jadd x1 1) fun v177 => lds X (jadd x1 2) fun v178 => lds X (jadd x1 3) fun v179 => cR (f128 v177 v178 v179 s2) fun r180 s181 => lds X (jadd x1 1) fun v182 => lds X (jadd x1 2) fun v183 => lds X (jadd x1 3) fun v184 => cR (f251 v182 v183 v184 s181) fun r185 s186 => if r180 = r185 then (bnd (jadd x1 6) fun v187 => some (.inl (v187, s186))) else some (.inr (.inr (.inr (.inr (.inr (.inr (.inr (.inr (.inr (.inr (.inr (.inr (.inr (.inr (.inr (.inr (.inr (.inr (.inr (.inr (.inr (.inr (.inl s186)))))))))))))))))))))))) else if (jand v3 63) = 22 then (lds X (jadd x1 1) fun v188 => cP (f133 v188 s2) fun r189 => lds X (jadd x1 1) fun v190 => cP (f254 v190 s2) fun r191 => if r189 = r191 then (bnd (jadd x1 6) fun v192 => some (.inl (v192, s2))) else some (.inr (.inr (.inr (.inr (.inr (.inr (.inr (.inr (.inr (.inr (.inr (.inr (.inr (.inr (.inr (.inr (.inr (.inr (.inr (.inr (.inr (.inr (.inr (.inl s2))))))))))))))))))))))))) else if (jand v3 63) = 23 then (lds X (jadd x1 1) fun v193 => cP (f135 v193 s2) fun r194 => lds X (jadd x1 1) fun v195 => cP (f256 v195 s2) fun r196 => if r194 = r196 then (bnd (jadd x1 6) fun v197 => some (.inl (v197, s2))) else some (.inr (.inr (.inr (.inr (.inr (.inr (.inr (.inr (.inr (.inr (.inr (.inr (.inr (.inr (.inr (.inr (.inr (.inr (.inr (.inr (.inr (.inr (.inr (.inr (.inl s2)))))))))))))))))))))))))) else if (jand v3 63) = 24 then (lds X (jadd x1 1) fun v198 => lds X (jadd x1 2) fun v199 => cR (f136 v198 v199 s2) fun r200 s201 => lds X (jadd x1 1) fun v202 => lds X (jadd x1 2) fun v203 => cR (f257 v202 v203 s201) fun r204 s205 => if r200 = r204 then (bnd (jadd x1 6) fun v206 => some (.inl (v206, s205))) else some (.inr (.inr (.inr (.inr (.inr (.inr (.inr (.inr (.inr (.inr (.inr (.inr (.inr (.inr (.inr (.inr (.inr (.inr (.inr (.inr (.inr (.inr (.inr (.inr (.inr (.inl s205))))))))))))))))))))))))))) else if (jand v3 63) = 25 then (lds X (jadd x1 1) fun v207 => lds X (jadd x1 2) fun v208 => lds X (jadd x1 3) fun v209 => cR (f137 v207 v208 v209 s2) fun r210 s211 => lds X (jadd x1 1) fun v212 => lds X (jadd x1 2) fun v213 => lds X (jadd x1 3) fun v214 => cR (f258 v212 v213 v214 s211) fun r215 s216 => if r210 = r215 then (bnd (jadd x1 6) fun v217 => some (.inl (v217, s216))) else some (.inr (.inr (.inr (.inr (.inr (.inr (.inr (.inr (.inr (.inr (.inr (.inr (.inr (.inr (.inr (.inr (.inr (.inr (.inr (.inr (.inr (.inr (.inr (.inr (.inr (.inr (.inl s216)))))))))))))))))))))))))))) else if (jand v3 63) = 26 then (lds X (jadd x1 1) fun v218 => cR (f139 v218 s2) fun r219 s220 => lds X (jadd x1 1) fun v221 => cR (f259 v221 s220) fun r222 s223 => if r219 = r222 then (bnd (jadd x1 6) fun v224 => some (.inl (v224, s223))) else some (.inr (.inr (.inr (.inr (.inr (.inr (.inr (.inr (.inr (.inr (.inr (.inr (.inr (.inr (.inr (.inr (.inr (.inr (.inr (.inr (.inr (.inr (.inr (.inr (.inr (.inr (.inr (.inl s223))))))))))))))))))))))))))))) else if (jand v3 63) = 27 then (lds X (jadd x1 1) fun v225 => lds X (jadd x1 2) fun v226 => cR (f143 v225 v226 s2) fun r227 s228 => lds X (jadd x1 1) fun v229 => lds X (jadd x1 2) fun v230 => cR (f262 v229 v230 s228) fun r231 s232 => if r227 = r231 then (bnd (jadd x1 6) fun v233 => some (.inl (v233, s232))) else some (.inr (.inr (.inr (.inr (.inr (.inr (.inr (.inr (.inr (.inr (.inr (.inr (.inr (.inr (.inr (.inr (.inr (.inr (.inr (.inr (.inr (.inr (.inr (.inr (.inr (.inr (.inr (.inr (.inl s232)))))))))))))))))))))))))))))) else if (jand v3 63) = 28 then (lds X (jadd x1 1) fun v234 => lds X (jadd x1 2) fun v235 => lds X (jadd x1 3) fun v236 => cR (f146 v234 v235 v236 s2) fun r237 s238 => lds X (jadd x1 1) fun v239 => lds X (jadd x1 2) fun v240 => lds X (jadd x1 3) fun v241 => cR (f263 v239 v240 v241 s238) fun r242 s243 => if r237 = r242 then (bnd (jadd x1 6) fun v244 => some (.inl (v244, s243))) else some (.inr (.inr (.inr (.inr (.inr (.inr (.inr (.inr (.inr (.inr (.inr (.inr (.inr (.inr (.inr (.inr (.inr (.inr (.inr (.inr (.inr (.inr (.inr (.inr (.inr (.inr (.inr (.inr (.inr (.inl s243))))))))))))))))))))))))))))))) else if (jand v3 63) = 29 then (lds X (jadd x1 1) fun v245 => cR (f147 v245 s2) fun r246 s247 => lds X (jadd x1 1) fun v248 => cR (f264 v248 s247) fun r249 s250 => if r246 = r249 then (bnd (jadd x1 6) fun v251 => some (.inl (v251, s250))) else some (.inr (.inr (.inr (.inr (.inr (.inr (.inr (.inr (.inr (.inr (.inr (.inr (.inr (.inr (.inr (.inr (.inr (.inr (.inr (.inr (.inr (.inr (.inr (.inr (.inr (.inr (.inr (.inr (.inr (.inr (.inl s250)))))))))))))))))))))))))))))))) else if (jand v3 63) = 30 then (lds X (jadd x1 1) fun v252 => lds X (jadd x1 2) fun v253 => lds X (jadd x1 3) fun v254 => lds X (jadd x1 4) fun v255 => cR (f148 v252 v253 v254 v255 s2) fun r256 s257 => lds X (jadd x1 1) fun v258 => lds X (jadd x1 2) fun v259 => lds X (jadd x1 3) fun v260 => lds X (jadd x1 4) fun v261 => cR (f265 v258 v259 v260 v261 s257) fun r262 s263 => if r256 = r262 then (bnd (jadd x1 6) fun v264 => some (.inl (v264, s263))) else some (.inr (.inr (.inr (.inr (.inr (.inr (.inr (.inr (.inr (.inr (.inr (.inr (.inr (.inr (.inr (.inr (.inr (.inr (.inr (.inr (.inr (.inr (.inr (.inr (.inr (.inr (.inr (.inr (.inr (.inr (.inr (.inl s263))))))))))))))))))))))))))))))))) else if (jand v3 63) = 31 then (lds X (jadd x1 1) fun v265 => cP (f150 v265 s2) fun r266 => lds X (jadd x1 1) fun v267 => cP (f268 v267 s2) fun r268 => if r266 = r268 then (bnd (jadd x1 6) fun v269 => some (.inl (v269, s2))) else some (.inr (.inr (.inr (.inr (.inr (.inr (.inr (.inr (.inr (.inr (.inr (.inr (.inr (.inr (.inr (.inr (.inr (.inr (.inr (.inr (.inr (.inr (.inr (.inr (.inr (.inr (.inr (.inr (.inr (.inr (.inr (.inr (.inl s2)))))))))))))))))))))))))))))))))) else if (jand v3 63) = 32 then (lds X (jadd x1 1) fun v270 => cR (f152 v270 s2) fun r271 s272 => lds X (jadd x1 1) fun v273 => cR (f270 v273 s272) fun r274 s275 => if r271 = r274 then (bnd (jadd x1 6) fun v276 => some (.inl (v276, s275))) else some (.inr (.inr (.inr (.inr (.inr (.inr (.inr (.inr (.inr (.inr (.inr (.inr (.inr (.inr (.inr (.inr (.inr (.inr (.inr (.inr (.inr (.inr (.inr (.inr (.inr (.inr (.inr (.inr (.inr (.inr (.inr (.inr (.inr (.inl s275))))))))))))))))))))))))))))))))))) else if (jand v3 63) = 33 then (lds X (jadd x1 1) fun v277 => cR (f154 v277 s2) fun r278 s279 => lds X (jadd x1 1) fun v280 => cR (f271 v280 s279) fun r281 s282 => if r278 = r281 then (bnd (jadd x1 6) fun v283 => some (.inl (v283, s282))) else some (.inr (.inr (.inr (.inr (.inr (.inr (.inr (.inr (.inr (.inr (.inr (.inr (.inr (.inr (.inr (.inr (.inr (.inr (.inr (.inr (.inr (.inr (.inr (.inr (.inr (.inr (.inr (.inr (.inr (.inr (.inr (.inr (.inr (.inr (.inl s282)))))))))))))))))))))))))))))))))))) else bnd (jadd x1 6) fun v284 => some (.inl (v284, s2))
/-- the law, behind the two makings -/
def f287 (X : X2) (s : S2) : Option (Int × S2) := cP (itr (fun (x1, s2) => f287_a X x1 s2) am_fu (0, s)) (se (fun s285 => some (0, s285)) (se (fun s286 => some (0, s286)) (se (fun s287 => some (0, s287)) (se (fun s288 => some (0, s288)) (se (fun s289 => some (0, s289)) (se (fun s290 => some (0, s290)) (se (fun s291 => some (0, s291)) (se (fun s292 => some (0, s292)) (se (fun s293 => some (0, s293)) (se (fun s294 => some (0, s294)) (se (fun s295 => some (0, s295)) (se (fun s296 => some (0, s296)) (se (fun s297 => some (0, s297)) (se (fun s298 => some (0, s298)) (se (fun s299 => some (0, s299)) (se (fun s300 => some (0, s300)) (se (fun s301 => some (0, s301)) (se (fun s302 => some (0, s302)) (se (fun s303 => some (0, s303)) (se (fun s304 => some (0, s304)) (se (fun s305 => some (0, s305)) (se (fun s306 => some (0, s306)) (se (fun s307 => some (0, s307)) (se (fun s308 => some (0, s308)) (se (fun s309 => some (0, s309)) (se (fun s310 => some (0, s310)) (se (fun s311 => some (0, s311)) (se (fun s312 => some (0, s312)) (se (fun s313 => some (0, s313)) (se (fun s314 => some (0, s314)) (se (fun s315 => some (0, s315)) (se (fun s316 => some (0, s316)) (se (fun s317 => some (0, s317)) (se (fun s318 => some (0, s318)) (fun s319 => some (1, s319))))))))))))))))))))))))))))))))))))
theorem q287 : am_cd 287 = am_c287 := rfl
def H287_a (X : X2) (o : Option (AV R2) × S2) (a : Int × S2) : Prop := Go X 202 287 18 [some (aR 6000 0), some (oR 0 0), some (oR 12 0), some (vI (a.1))] [] (a.2) o
def E287_a (X : X2) (o : Option (AV R2) × S2) : (S2) ⊕ ((S2) ⊕ ((S2) ⊕ ((S2) ⊕ ((S2) ⊕ ((S2) ⊕ ((S2) ⊕ ((S2) ⊕ ((S2) ⊕ ((S2) ⊕ ((S2) ⊕ ((S2) ⊕ ((S2) ⊕ ((S2) ⊕ ((S2) ⊕ ((S2) ⊕ ((S2) ⊕ ((S2) ⊕ ((S2) ⊕ ((S2) ⊕ ((S2) ⊕ ((S2) ⊕ ((S2) ⊕ ((S2) ⊕ ((S2) ⊕ ((S2) ⊕ ((S2) ⊕ ((S2) ⊕ ((S2) ⊕ ((S2) ⊕ ((S2) ⊕ ((S2) ⊕ ((S2) ⊕ ((S2) ⊕ (S2)))))))))))))))))))))))))))))))))) → Prop := (am_kx (fun (r : S2) => Go X 202 287 245 [none, none, none, none] [] r o) (am_kx (fun (r : S2) => Go X 202 287 268 [none, none, none, none] [] r o) (am_kx (fun (r : S2) => Go X 202 287 281 [none, none, none, none] [] r o) (am_kx (fun (r : S2) => Go X 202 287 294 [none, none, none, none] [] r o) (am_kx (fun (r : S2) => Go X 202 287 317 [none, none, none, none] [] r o) (am_kx (fun (r : S2) => Go X 202 287 350 [none, none, none, none] [] r o) (am_kx (fun (r : S2) => Go X 202 287 383 [none, none, none, none] [] r o) (am_kx (fun (r : S2) => Go X 202 287 416 [none, none, none, none] [] r o) (am_kx (fun (r : S2) => Go X 202 287 429 [none, none, none, none] [] r o) (am_kx (fun (r : S2) => Go X 202 287 462 [none, none, none, none] [] r o) (am_kx (fun (r : S2) => Go X 202 287 485 [none, none, none, none] [] r o) (am_kx (fun (r : S2) => Go X 202 287 508 [none, none, none, none] [] r o) (am_kx (fun (r : S2) => Go X 202 287 531 [none, none, none, none] [] r o) (am_kx (fun (r : S2) => Go X 202 287 554 [none, none, none, none] [] r o) (am_kx (fun (r : S2) => Go X 202 287 567 [none, none, none, none] [] r o) (am_kx (fun (r : S2) => Go X 202 287 610 [none, none, none, none] [] r o) (am_kx (fun (r : S2) => Go X 202 287 633 [none, none, none, none] [] r o) (am_kx (fun (r : S2) => Go X 202 287 676 [none, none, none, none] [] r o) (am_kx (fun (r : S2) => Go X 202 287 729 [none, none, none, none] [] r o) (am_kx (fun (r : S2) => Go X 202 287 762 [none, none, none, none] [] r o) (am_kx (fun (r : S2) => Go X 202 287 805 [none, none, none, none] [] r o) (am_kx (fun (r : S2) => Go X 202 287 848 [none, none, none, none] [] r o) (am_kx (fun (r : S2) => Go X 202 287 871 [none, none, none, none] [] r o) (am_kx (fun (r : S2) => Go X 202 287 894 [none, none, none, none] [] r o) (am_kx (fun (r : S2) => Go X 202 287 927 [none, none, none, none] [] r o) (am_kx (fun (r : S2) => Go X 202 287 970 [none, none, none, none] [] r o) (am_kx (fun (r : S2) => Go X 202 287 993 [none, none, none, none] [] r o) (am_kx (fun (r : S2) => Go X 202 287 1026 [none, none, none, none] [] r o) (am_kx (fun (r : S2) => Go X 202 287 1069 [none, none, none, none] [] r o) (am_kx (fun (r : S2) => Go X 202 287 1092 [none, none, none, none] [] r o) (am_kx (fun (r : S2) => Go X 202 287 1145 [none, none, none, none] [] r o) (am_kx (fun (r : S2) => Go X 202 287 1168 [none, none, none, none] [] r o) (am_kx (fun (r : S2) => Go X 202 287 1191 [none, none, none, none] [] r o) (am_kx (fun (r : S2) => Go X 202 287 1214 [none, none, none, none] [] r o) (fun (r : S2) => Go X 202 287 1222 [none, none, none, none] [] r o)))))))))))))))))))))))))))))))))))
set_option maxRecDepth 20000 in
theorem g287_a (X : X2) (x1 : Int) (s2 : S2) (hX : X.1 ≤ 100000) (o : Option (AV R2) × S2) : J (f287_a X x1 s2) (am_kx (H287_a X o) (E287_a X o)) (Go X 202 287 18 [some (aR 6000 0), some (oR 0 0), some (oR 12 0), some (vI x1)] [] s2 o) := by
  unfold f287_a
  refine g_p q287 2 20 [some (aR 6000 0), some (oR 0 0), some (oR 12 0), some (vI x1)] [aR 6000 0, vI x1] rfl ?_
  refine g_m (S := [vI ((X.1 : Nat) : Int), vI x1]) (some (vI ((X.1 : Nat) : Int))) q287 rfl rfl rfl (fun _ => if_pos ⟨rfl, hX⟩) rfl ?_
  refine g_p q287 2 24 [some (aR 6000 0), some (oR 0 0), some (oR 12 0), some (vI x1)] [vI (jsub ((X.1 : Nat) : Int) 6), vI x1] rfl ?_
  refine g_i2 q287 rfl rfl ?_ ?_
  ·
    exact g_end (fun h => g_wk [false, false, false, false] rfl h)
  ·
    refine g_p q287 2 29 [some (aR 6000 0), some (oR 0 0), some (oR 12 0), some (vI x1)] [vI x1, aR 6000 0] rfl ?_
    refine g_lds q287 rfl rfl rfl (fun v3 => ?_)
    refine g_p q287 2 33 [some (aR 6000 0), some (oR 0 0), some (oR 12 0), some (vI x1)] [vI (jand v3 63)] rfl ?_
    refine g_sw q287 rfl ?_
    refine g_swc ?_ ?_
    ·
      refine g_p q287 5 189 [some (aR 6000 0), some (oR 0 0), some (oR 12 0), some (vI x1)] [vI (jadd x1 1), aR 6000 0, oR 0 0] rfl ?_
      refine g_lds q287 rfl rfl rfl (fun v4 => ?_)
      refine g_p q287 4 194 [some (aR 6000 0), some (oR 0 0), some (oR 12 0), some (vI x1)] [vI (jadd x1 2), aR 6000 0, vI v4, oR 0 0] rfl ?_
      refine g_lds q287 rfl rfl rfl (fun v5 => ?_)
      refine g_p q287 4 199 [some (aR 6000 0), some (oR 0 0), some (oR 12 0), some (vI x1)] [vI (jadd x1 3), aR 6000 0, vI v5, vI v4, oR 0 0] rfl ?_
      refine g_lds q287 rfl rfl rfl (fun v6 => ?_)
      refine g_p q287 4 204 [some (aR 6000 0), some (oR 0 0), some (oR 12 0), some (vI x1)] [vI (jadd x1 4), aR 6000 0, vI v6, vI v5, vI v4, oR 0 0] rfl ?_
      refine g_lds q287 rfl rfl rfl (fun v7 => ?_)
      refine g_p q287 4 209 [some (aR 6000 0), some (oR 0 0), some (oR 12 0), some (vI x1)] [vI (jadd x1 5), aR 6000 0, vI v7, vI v6, vI v5, vI v4, oR 0 0] rfl ?_
      refine g_lds q287 rfl rfl rfl (fun v8 => ?_)
      refine g_cRI q287 rfl (g14 X v4 v5 v6 v7 v8 s2) rfl rfl rfl rfl rfl (fun r9 s10 => ?_)
      refine g_p q287 5 218 [some (aR 6000 0), some (oR 0 0), some (oR 12 0), some (vI x1)] [vI (jadd x1 1), aR 6000 0, oR 12 0, vI r9] rfl ?_
      refine g_lds q287 rfl rfl rfl (fun v11 => ?_)
      refine g_p q287 4 223 [some (aR 6000 0), some (oR 0 0), some (oR 12 0), some (vI x1)] [vI (jadd x1 2), aR 6000 0, vI v11, oR 12 0, vI r9] rfl ?_
      refine g_lds q287 rfl rfl rfl (fun v12 => ?_)
      refine g_p q287 4 228 [some (aR 6000 0), some (oR 0 0), some (oR 12 0), some (vI x1)] [vI (jadd x1 3), aR 6000 0, vI v12, vI v11, oR 12 0, vI r9] rfl ?_
      refine g_lds q287 rfl rfl rfl (fun v13 => ?_)
      refine g_p q287 4 233 [some (aR 6000 0), some (oR 0 0), some (oR 12 0), some (vI x1)] [vI (jadd x1 4), aR 6000 0, vI v13, vI v12, vI v11, oR 12 0, vI r9] rfl ?_
      refine g_lds q287 rfl rfl rfl (fun v14 => ?_)
      refine g_p q287 4 238 [some (aR 6000 0), some (oR 0 0), some (oR 12 0), some (vI x1)] [vI (jadd x1 5), aR 6000 0, vI v14, vI v13, vI v12, vI v11, oR 12 0, vI r9] rfl ?_
      refine g_lds q287 rfl rfl rfl (fun v15 => ?_)
      refine g_cRI q287 rfl (g156 X v11 v12 v13 v14 v15 s10) rfl rfl rfl rfl rfl (fun r16 s17 => ?_)
      refine g_i2 q287 rfl rfl ?_ ?_
      ·
        refine g_inc (fun v18 => [some (aR 6000 0), some (oR 0 0), some (oR 12 0), some (vI v18)]) q287 rfl rfl (fun _ => rfl) (fun v18 => ?_)
        refine g_p q287 1 18 [some (aR 6000 0), some (oR 0 0), some (oR 12 0), some (vI v18)] [] rfl ?_
        exact g_end (fun h => g_wk [true, true, true, true] rfl h)
      ·
        exact g_end (fun h => g_wk [false, false, false, false] rfl h)
    ·
      refine g_swc ?_ ?_
      ·
        refine g_p q287 5 252 [some (aR 6000 0), some (oR 0 0), some (oR 12 0), some (vI x1)] [vI (jadd x1 1), aR 6000 0, oR 0 0] rfl ?_
        refine g_lds q287 rfl rfl rfl (fun v19 => ?_)
        refine g_cRI q287 rfl (g17 X v19 s2) rfl rfl rfl rfl rfl (fun r20 s21 => ?_)
        refine g_p q287 5 261 [some (aR 6000 0), some (oR 0 0), some (oR 12 0), some (vI x1)] [vI (jadd x1 1), aR 6000 0, oR 12 0, vI r20] rfl ?_
        refine g_lds q287 rfl rfl rfl (fun v22 => ?_)
        refine g_cRI q287 rfl (g158 X v22 s21) rfl rfl rfl rfl rfl (fun r23 s24 => ?_)
        refine g_i2 q287 rfl rfl ?_ ?_
        ·
          refine g_inc (fun v25 => [some (aR 6000 0), some (oR 0 0), some (oR 12 0), some (vI v25)]) q287 rfl rfl (fun _ => rfl) (fun v25 => ?_)
          refine g_p q287 1 18 [some (aR 6000 0), some (oR 0 0), some (oR 12 0), some (vI v25)] [] rfl ?_
          exact g_end (fun h => g_wk [true, true, true, true] rfl h)
        ·
          exact g_end (fun h => g_wk [false, false, false, false] rfl h)
      ·
        refine g_swc ?_ ?_
        ·
          refine g_p q287 1 271 [some (aR 6000 0), some (oR 0 0), some (oR 12 0), some (vI x1)] [oR 0 0] rfl ?_
          refine g_cRI q287 rfl (g18 X s2) rfl rfl rfl rfl rfl (fun r26 s27 => ?_)
          refine g_p q287 1 275 [some (aR 6000 0), some (oR 0 0), some (oR 12 0), some (vI x1)] [oR 12 0, vI r26] rfl ?_
          refine g_cRI q287 rfl (g159 X s27) rfl rfl rfl rfl rfl (fun r28 s29 => ?_)
          refine g_i2 q287 rfl rfl ?_ ?_
          ·
            refine g_inc (fun v30 => [some (aR 6000 0), some (oR 0 0), some (oR 12 0), some (vI v30)]) q287 rfl rfl (fun _ => rfl) (fun v30 => ?_)
            refine g_p q287 1 18 [some (aR 6000 0), some (oR 0 0), some (oR 12 0), some (vI v30)] [] rfl ?_
            exact g_end (fun h => g_wk [true, true, true, true] rfl h)
          ·
            exact g_end (fun h => g_wk [false, false, false, false] rfl h)
        ·
          refine g_swc ?_ ?_
          ·
            refine g_p q287 1 284 [some (aR 6000 0), some (oR 0 0), some (oR 12 0), some (vI x1)] [oR 0 0] rfl ?_
            refine g_cRI q287 rfl (g59 X s2) rfl rfl rfl rfl rfl (fun r31 s32 => ?_)
            refine g_p q287 1 288 [some (aR 6000 0), some (oR 0 0), some (oR 12 0), some (vI x1)] [oR 12 0, vI r31] rfl ?_
            refine g_cRI q287 rfl (g181 X s32) rfl rfl rfl rfl rfl (fun r33 s34 => ?_)
            refine g_i2 q287 rfl rfl ?_ ?_
            ·
              refine g_inc (fun v35 => [some (aR 6000 0), some (oR 0 0), some (oR 12 0), some (vI v35)]) q287 rfl rfl (fun _ => rfl) (fun v35 => ?_)
              refine g_p q287 1 18 [some (aR 6000 0), some (oR 0 0), some (oR 12 0), some (vI v35)] [] rfl ?_
              exact g_end (fun h => g_wk [true, true, true, true] rfl h)
            ·
              exact g_end (fun h => g_wk [false, false, false, false] rfl h)
          ·
            refine g_swc ?_ ?_
            ·
              refine g_p q287 5 301 [some (aR 6000 0), some (oR 0 0), some (oR 12 0), some (vI x1)] [vI (jadd x1 1), aR 6000 0, oR 0 0] rfl ?_
              refine g_lds q287 rfl rfl rfl (fun v36 => ?_)
              refine g_cRI q287 rfl (g71 X v36 s2) rfl rfl rfl rfl rfl (fun r37 s38 => ?_)
              refine g_p q287 5 310 [some (aR 6000 0), some (oR 0 0), some (oR 12 0), some (vI x1)] [vI (jadd x1 1), aR 6000 0, oR 12 0, vI r37] rfl ?_
              refine g_lds q287 rfl rfl rfl (fun v39 => ?_)
              refine g_cRI q287 rfl (g196 X v39 s38) rfl rfl rfl rfl rfl (fun r40 s41 => ?_)
              refine g_i2 q287 rfl rfl ?_ ?_
              ·
                refine g_inc (fun v42 => [some (aR 6000 0), some (oR 0 0), some (oR 12 0), some (vI v42)]) q287 rfl rfl (fun _ => rfl) (fun v42 => ?_)
                refine g_p q287 1 18 [some (aR 6000 0), some (oR 0 0), some (oR 12 0), some (vI v42)] [] rfl ?_
                exact g_end (fun h => g_wk [true, true, true, true] rfl h)
              ·
                exact g_end (fun h => g_wk [false, false, false, false] rfl h)
            ·
              refine g_swc ?_ ?_
              ·
                refine g_p q287 5 324 [some (aR 6000 0), some (oR 0 0), some (oR 12 0), some (vI x1)] [vI (jadd x1 1), aR 6000 0, oR 0 0] rfl ?_
                refine g_lds q287 rfl rfl rfl (fun v43 => ?_)
                refine g_p q287 4 329 [some (aR 6000 0), some (oR 0 0), some (oR 12 0), some (vI x1)] [vI (jadd x1 2), aR 6000 0, vI v43, oR 0 0] rfl ?_
                refine g_lds q287 rfl rfl rfl (fun v44 => ?_)
                refine g_cRI q287 rfl (g73 X v43 v44 s2) rfl rfl rfl rfl rfl (fun r45 s46 => ?_)
                refine g_p q287 5 338 [some (aR 6000 0), some (oR 0 0), some (oR 12 0), some (vI x1)] [vI (jadd x1 1), aR 6000 0, oR 12 0, vI r45] rfl ?_
                refine g_lds q287 rfl rfl rfl (fun v47 => ?_)
                refine g_p q287 4 343 [some (aR 6000 0), some (oR 0 0), some (oR 12 0), some (vI x1)] [vI (jadd x1 2), aR 6000 0, vI v47, oR 12 0, vI r45] rfl ?_
                refine g_lds q287 rfl rfl rfl (fun v48 => ?_)
                refine g_cRI q287 rfl (g197 X v47 v48 s46) rfl rfl rfl rfl rfl (fun r49 s50 => ?_)
                refine g_i2 q287 rfl rfl ?_ ?_
                ·
                  refine g_inc (fun v51 => [some (aR 6000 0), some (oR 0 0), some (oR 12 0), some (vI v51)]) q287 rfl rfl (fun _ => rfl) (fun v51 => ?_)
                  refine g_p q287 1 18 [some (aR 6000 0), some (oR 0 0), some (oR 12 0), some (vI v51)] [] rfl ?_
                  exact g_end (fun h => g_wk [true, true, true, true] rfl h)
                ·
                  exact g_end (fun h => g_wk [false, false, false, false] rfl h)
              ·
                refine g_swc ?_ ?_
                ·
                  refine g_p q287 5 357 [some (aR 6000 0), some (oR 0 0), some (oR 12 0), some (vI x1)] [vI (jadd x1 1), aR 6000 0, oR 0 0] rfl ?_
                  refine g_lds q287 rfl rfl rfl (fun v52 => ?_)
                  refine g_p q287 4 362 [some (aR 6000 0), some (oR 0 0), some (oR 12 0), some (vI x1)] [vI (jadd x1 2), aR 6000 0, vI v52, oR 0 0] rfl ?_
                  refine g_lds q287 rfl rfl rfl (fun v53 => ?_)
                  refine g_cRI q287 rfl (g88 X v52 v53 s2) rfl rfl rfl rfl rfl (fun r54 s55 => ?_)
                  refine g_p q287 5 371 [some (aR 6000 0), some (oR 0 0), some (oR 12 0), some (vI x1)] [vI (jadd x1 1), aR 6000 0, oR 12 0, vI r54] rfl ?_
                  refine g_lds q287 rfl rfl rfl (fun v56 => ?_)
                  refine g_p q287 4 376 [some (aR 6000 0), some (oR 0 0), some (oR 12 0), some (vI x1)] [vI (jadd x1 2), aR 6000 0, vI v56, oR 12 0, vI r54] rfl ?_
                  refine g_lds q287 rfl rfl rfl (fun v57 => ?_)
                  refine g_cRI q287 rfl (g209 X v56 v57 s55) rfl rfl rfl rfl rfl (fun r58 s59 => ?_)
                  refine g_i2 q287 rfl rfl ?_ ?_
                  ·
                    refine g_inc (fun v60 => [some (aR 6000 0), some (oR 0 0), some (oR 12 0), some (vI v60)]) q287 rfl rfl (fun _ => rfl) (fun v60 => ?_)
                    refine g_p q287 1 18 [some (aR 6000 0), some (oR 0 0), some (oR 12 0), some (vI v60)] [] rfl ?_
                    exact g_end (fun h => g_wk [true, true, true, true] rfl h)
                  ·
                    exact g_end (fun h => g_wk [false, false, false, false] rfl h)
                ·
                  refine g_swc ?_ ?_
                  ·
                    refine g_p q287 5 390 [some (aR 6000 0), some (oR 0 0), some (oR 12 0), some (vI x1)] [vI (jadd x1 1), aR 6000 0, oR 0 0] rfl ?_
                    refine g_lds q287 rfl rfl rfl (fun v61 => ?_)
                    refine g_p q287 4 395 [some (aR 6000 0), some (oR 0 0), some (oR 12 0), some (vI x1)] [vI (jadd x1 2), aR 6000 0, vI v61, oR 0 0] rfl ?_
                    refine g_lds q287 rfl rfl rfl (fun v62 => ?_)
                    refine g_cPI q287 rfl (g91 X v61 v62 s2) rfl rfl rfl rfl rfl (fun r63 => ?_)
                    refine g_p q287 5 404 [some (aR 6000 0), some (oR 0 0), some (oR 12 0), some (vI x1)] [vI (jadd x1 1), aR 6000 0, oR 12 0, vI r63] rfl ?_
                    refine g_lds q287 rfl rfl rfl (fun v64 => ?_)
                    refine g_p q287 4 409 [some (aR 6000 0), some (oR 0 0), some (oR 12 0), some (vI x1)] [vI (jadd x1 2), aR 6000 0, vI v64, oR 12 0, vI r63] rfl ?_
                    refine g_lds q287 rfl rfl rfl (fun v65 => ?_)
                    refine g_cPI q287 rfl (g213 X v64 v65 s2) rfl rfl rfl rfl rfl (fun r66 => ?_)
                    refine g_i2 q287 rfl rfl ?_ ?_
                    ·
                      refine g_inc (fun v67 => [some (aR 6000 0), some (oR 0 0), some (oR 12 0), some (vI v67)]) q287 rfl rfl (fun _ => rfl) (fun v67 => ?_)
                      refine g_p q287 1 18 [some (aR 6000 0), some (oR 0 0), some (oR 12 0), some (vI v67)] [] rfl ?_
                      exact g_end (fun h => g_wk [true, true, true, true] rfl h)
                    ·
                      exact g_end (fun h => g_wk [false, false, false, false] rfl h)
                  ·
                    refine g_swc ?_ ?_
                    ·
                      refine g_p q287 1 419 [some (aR 6000 0), some (oR 0 0), some (oR 12 0), some (vI x1)] [oR 0 0] rfl ?_
                      refine g_cRI q287 rfl (g92 X s2) rfl rfl rfl rfl rfl (fun r68 s69 => ?_)
                      refine g_p q287 1 423 [some (aR 6000 0), some (oR 0 0), some (oR 12 0), some (vI x1)] [oR 12 0, vI r68] rfl ?_
                      refine g_cRI q287 rfl (g219 X s69) rfl rfl rfl rfl rfl (fun r70 s71 => ?_)
                      refine g_i2 q287 rfl rfl ?_ ?_
                      ·
                        refine g_inc (fun v72 => [some (aR 6000 0), some (oR 0 0), some (oR 12 0), some (vI v72)]) q287 rfl rfl (fun _ => rfl) (fun v72 => ?_)
                        refine g_p q287 1 18 [some (aR 6000 0), some (oR 0 0), some (oR 12 0), some (vI v72)] [] rfl ?_
                        exact g_end (fun h => g_wk [true, true, true, true] rfl h)
                      ·
                        exact g_end (fun h => g_wk [false, false, false, false] rfl h)
                    ·
                      refine g_swc ?_ ?_
                      ·
                        refine g_p q287 5 436 [some (aR 6000 0), some (oR 0 0), some (oR 12 0), some (vI x1)] [vI (jadd x1 1), aR 6000 0, oR 0 0] rfl ?_
                        refine g_lds q287 rfl rfl rfl (fun v73 => ?_)
                        refine g_p q287 4 441 [some (aR 6000 0), some (oR 0 0), some (oR 12 0), some (vI x1)] [vI (jadd x1 2), aR 6000 0, vI v73, oR 0 0] rfl ?_
                        refine g_lds q287 rfl rfl rfl (fun v74 => ?_)
                        refine g_cRI q287 rfl (g96 X v73 v74 s2) rfl rfl rfl rfl rfl (fun r75 s76 => ?_)
                        refine g_p q287 5 450 [some (aR 6000 0), some (oR 0 0), some (oR 12 0), some (vI x1)] [vI (jadd x1 1), aR 6000 0, oR 12 0, vI r75] rfl ?_
                        refine g_lds q287 rfl rfl rfl (fun v77 => ?_)
                        refine g_p q287 4 455 [some (aR 6000 0), some (oR 0 0), some (oR 12 0), some (vI x1)] [vI (jadd x1 2), aR 6000 0, vI v77, oR 12 0, vI r75] rfl ?_
                        refine g_lds q287 rfl rfl rfl (fun v78 => ?_)
                        refine g_cRI q287 rfl (g223 X v77 v78 s76) rfl rfl rfl rfl rfl (fun r79 s80 => ?_)
                        refine g_i2 q287 rfl rfl ?_ ?_
                        ·
                          refine g_inc (fun v81 => [some (aR 6000 0), some (oR 0 0), some (oR 12 0), some (vI v81)]) q287 rfl rfl (fun _ => rfl) (fun v81 => ?_)
                          refine g_p q287 1 18 [some (aR 6000 0), some (oR 0 0), some (oR 12 0), some (vI v81)] [] rfl ?_
                          exact g_end (fun h => g_wk [true, true, true, true] rfl h)
                        ·
                          exact g_end (fun h => g_wk [false, false, false, false] rfl h)
                      ·
                        refine g_swc ?_ ?_
                        ·
                          refine g_p q287 5 469 [some (aR 6000 0), some (oR 0 0), some (oR 12 0), some (vI x1)] [vI (jadd x1 1), aR 6000 0, oR 0 0] rfl ?_
                          refine g_lds q287 rfl rfl rfl (fun v82 => ?_)
                          refine g_cRI q287 rfl (g97 X v82 s2) rfl rfl rfl rfl rfl (fun r83 s84 => ?_)
                          refine g_p q287 5 478 [some (aR 6000 0), some (oR 0 0), some (oR 12 0), some (vI x1)] [vI (jadd x1 1), aR 6000 0, oR 12 0, vI r83] rfl ?_
                          refine g_lds q287 rfl rfl rfl (fun v85 => ?_)
                          refine g_cRI q287 rfl (g226 X v85 s84) rfl rfl rfl rfl rfl (fun r86 s87 => ?_)
                          refine g_i2 q287 rfl rfl ?_ ?_
                          ·
                            refine g_inc (fun v88 => [some (aR 6000 0), some (oR 0 0), some (oR 12 0), some (vI v88)]) q287 rfl rfl (fun _ => rfl) (fun v88 => ?_)
                            refine g_p q287 1 18 [some (aR 6000 0), some (oR 0 0), some (oR 12 0), some (vI v88)] [] rfl ?_
                            exact g_end (fun h => g_wk [true, true, true, true] rfl h)
                          ·
                            exact g_end (fun h => g_wk [false, false, false, false] rfl h)
                        ·
                          refine g_swc ?_ ?_
                          ·
                            refine g_p q287 5 492 [some (aR 6000 0), some (oR 0 0), some (oR 12 0), some (vI x1)] [vI (jadd x1 1), aR 6000 0, oR 0 0] rfl ?_
                            refine g_lds q287 rfl rfl rfl (fun v89 => ?_)
                            refine g_cRI q287 rfl (g100 X v89 s2) rfl rfl rfl rfl rfl (fun r90 s91 => ?_)
                            refine g_p q287 5 501 [some (aR 6000 0), some (oR 0 0), some (oR 12 0), some (vI x1)] [vI (jadd x1 1), aR 6000 0, oR 12 0, vI r90] rfl ?_
                            refine g_lds q287 rfl rfl rfl (fun v92 => ?_)
                            refine g_cRI q287 rfl (g228 X v92 s91) rfl rfl rfl rfl rfl (fun r93 s94 => ?_)
                            refine g_i2 q287 rfl rfl ?_ ?_
                            ·
                              refine g_inc (fun v95 => [some (aR 6000 0), some (oR 0 0), some (oR 12 0), some (vI v95)]) q287 rfl rfl (fun _ => rfl) (fun v95 => ?_)
                              refine g_p q287 1 18 [some (aR 6000 0), some (oR 0 0), some (oR 12 0), some (vI v95)] [] rfl ?_
                              exact g_end (fun h => g_wk [true, true, true, true] rfl h)
                            ·
                              exact g_end (fun h => g_wk [false, false, false, false] rfl h)
                          ·
                            refine g_swc ?_ ?_
                            ·
                              refine g_p q287 5 515 [some (aR 6000 0), some (oR 0 0), some (oR 12 0), some (vI x1)] [vI (jadd x1 1), aR 6000 0, oR 0 0] rfl ?_
                              refine g_lds q287 rfl rfl rfl (fun v96 => ?_)
                              refine g_cRI q287 rfl (g101 X v96 s2) rfl rfl rfl rfl rfl (fun r97 s98 => ?_)
                              refine g_p q287 5 524 [some (aR 6000 0), some (oR 0 0), some (oR 12 0), some (vI x1)] [vI (jadd x1 1), aR 6000 0, oR 12 0, vI r97] rfl ?_
                              refine g_lds q287 rfl rfl rfl (fun v99 => ?_)
                              refine g_cRI q287 rfl (g229 X v99 s98) rfl rfl rfl rfl rfl (fun r100 s101 => ?_)
                              refine g_i2 q287 rfl rfl ?_ ?_
                              ·
                                refine g_inc (fun v102 => [some (aR 6000 0), some (oR 0 0), some (oR 12 0), some (vI v102)]) q287 rfl rfl (fun _ => rfl) (fun v102 => ?_)
                                refine g_p q287 1 18 [some (aR 6000 0), some (oR 0 0), some (oR 12 0), some (vI v102)] [] rfl ?_
                                exact g_end (fun h => g_wk [true, true, true, true] rfl h)
                              ·
                                exact g_end (fun h => g_wk [false, false, false, false] rfl h)
                            ·
                              refine g_swc ?_ ?_
                              ·
                                refine g_p q287 5 538 [some (aR 6000 0), some (oR 0 0), some (oR 12 0), some (vI x1)] [vI (jadd x1 1), aR 6000 0, oR 0 0] rfl ?_
                                refine g_lds q287 rfl rfl rfl (fun v103 => ?_)
                                refine g_cRI q287 rfl (g103 X v103 s2) rfl rfl rfl rfl rfl (fun r104 s105 => ?_)
                                refine g_p q287 5 547 [some (aR 6000 0), some (oR 0 0), some (oR 12 0), some (vI x1)] [vI (jadd x1 1), aR 6000 0, oR 12 0, vI r104] rfl ?_
                                refine g_lds q287 rfl rfl rfl (fun v106 => ?_)
                                refine g_cRI q287 rfl (g230 X v106 s105) rfl rfl rfl rfl rfl (fun r107 s108 => ?_)
                                refine g_i2 q287 rfl rfl ?_ ?_
                                ·
                                  refine g_inc (fun v109 => [some (aR 6000 0), some (oR 0 0), some (oR 12 0), some (vI v109)]) q287 rfl rfl (fun _ => rfl) (fun v109 => ?_)
                                  refine g_p q287 1 18 [some (aR 6000 0), some (oR 0 0), some (oR 12 0), some (vI v109)] [] rfl ?_
                                  exact g_end (fun h => g_wk [true, true, true, true] rfl h)
                                ·
                                  exact g_end (fun h => g_wk [false, false, false, false] rfl h)
                              ·
                                refine g_swc ?_ ?_
                                ·
                                  refine g_p q287 1 557 [some (aR 6000 0), some (oR 0 0), some (oR 12 0), some (vI x1)] [oR 0 0] rfl ?_
                                  refine g_cRI q287 rfl (g104 X s2) rfl rfl rfl rfl rfl (fun r110 s111 => ?_)
                                  refine g_p q287 1 561 [some (aR 6000 0), some (oR 0 0), some (oR 12 0), some (vI x1)] [oR 12 0, vI r110] rfl ?_
                                  refine g_cRI q287 rfl (g215 X s111) rfl rfl rfl rfl rfl (fun r112 s113 => ?_)
                                  refine g_i2 q287 rfl rfl ?_ ?_
                                  ·
                                    refine g_inc (fun v114 => [some (aR 6000 0), some (oR 0 0), some (oR 12 0), some (vI v114)]) q287 rfl rfl (fun _ => rfl) (fun v114 => ?_)
                                    refine g_p q287 1 18 [some (aR 6000 0), some (oR 0 0), some (oR 12 0), some (vI v114)] [] rfl ?_
                                    exact g_end (fun h => g_wk [true, true, true, true] rfl h)
                                  ·
                                    exact g_end (fun h => g_wk [false, false, false, false] rfl h)
                                ·
                                  refine g_swc ?_ ?_
                                  ·
                                    refine g_p q287 5 574 [some (aR 6000 0), some (oR 0 0), some (oR 12 0), some (vI x1)] [vI (jadd x1 1), aR 6000 0, oR 0 0] rfl ?_
                                    refine g_lds q287 rfl rfl rfl (fun v115 => ?_)
                                    refine g_p q287 4 579 [some (aR 6000 0), some (oR 0 0), some (oR 12 0), some (vI x1)] [vI (jadd x1 2), aR 6000 0, vI v115, oR 0 0] rfl ?_
                                    refine g_lds q287 rfl rfl rfl (fun v116 => ?_)
                                    refine g_p q287 4 584 [some (aR 6000 0), some (oR 0 0), some (oR 12 0), some (vI x1)] [vI (jadd x1 3), aR 6000 0, vI v116, vI v115, oR 0 0] rfl ?_
                                    refine g_lds q287 rfl rfl rfl (fun v117 => ?_)
                                    refine g_cRI q287 rfl (g106 X v115 v116 v117 s2) rfl rfl rfl rfl rfl (fun r118 s119 => ?_)
                                    refine g_p q287 5 593 [some (aR 6000 0), some (oR 0 0), some (oR 12 0), some (vI x1)] [vI (jadd x1 1), aR 6000 0, oR 12 0, vI r118] rfl ?_
                                    refine g_lds q287 rfl rfl rfl (fun v120 => ?_)
                                    refine g_p q287 4 598 [some (aR 6000 0), some (oR 0 0), some (oR 12 0), some (vI x1)] [vI (jadd x1 2), aR 6000 0, vI v120, oR 12 0, vI r118] rfl ?_
                                    refine g_lds q287 rfl rfl rfl (fun v121 => ?_)
                                    refine g_p q287 4 603 [some (aR 6000 0), some (oR 0 0), some (oR 12 0), some (vI x1)] [vI (jadd x1 3), aR 6000 0, vI v121, vI v120, oR 12 0, vI r118] rfl ?_
                                    refine g_lds q287 rfl rfl rfl (fun v122 => ?_)
                                    refine g_cRI q287 rfl (g231 X v120 v121 v122 s119) rfl rfl rfl rfl rfl (fun r123 s124 => ?_)
                                    refine g_i2 q287 rfl rfl ?_ ?_
                                    ·
                                      refine g_inc (fun v125 => [some (aR 6000 0), some (oR 0 0), some (oR 12 0), some (vI v125)]) q287 rfl rfl (fun _ => rfl) (fun v125 => ?_)
                                      refine g_p q287 1 18 [some (aR 6000 0), some (oR 0 0), some (oR 12 0), some (vI v125)] [] rfl ?_
                                      exact g_end (fun h => g_wk [true, true, true, true] rfl h)
                                    ·
                                      exact g_end (fun h => g_wk [false, false, false, false] rfl h)
                                  ·
                                    refine g_swc ?_ ?_
                                    ·
                                      refine g_p q287 5 617 [some (aR 6000 0), some (oR 0 0), some (oR 12 0), some (vI x1)] [vI (jadd x1 1), aR 6000 0, oR 0 0] rfl ?_
                                      refine g_lds q287 rfl rfl rfl (fun v126 => ?_)
                                      refine g_cRI q287 rfl (g108 X v126 s2) rfl rfl rfl rfl rfl (fun r127 s128 => ?_)
                                      refine g_p q287 5 626 [some (aR 6000 0), some (oR 0 0), some (oR 12 0), some (vI x1)] [vI (jadd x1 1), aR 6000 0, oR 12 0, vI r127] rfl ?_
                                      refine g_lds q287 rfl rfl rfl (fun v129 => ?_)
                                      refine g_cRI q287 rfl (g238 X v129 s128) rfl rfl rfl rfl rfl (fun r130 s131 => ?_)
                                      refine g_i2 q287 rfl rfl ?_ ?_
                                      ·
                                        refine g_inc (fun v132 => [some (aR 6000 0), some (oR 0 0), some (oR 12 0), some (vI v132)]) q287 rfl rfl (fun _ => rfl) (fun v132 => ?_)
                                        refine g_p q287 1 18 [some (aR 6000 0), some (oR 0 0), some (oR 12 0), some (vI v132)] [] rfl ?_
                                        exact g_end (fun h => g_wk [true, true, true, true] rfl h)
                                      ·
                                        exact g_end (fun h => g_wk [false, false, false, false] rfl h)
                                    ·
                                      refine g_swc ?_ ?_
                                      ·
                                        refine g_p q287 5 640 [some (aR 6000 0), some (oR 0 0), some (oR 12 0), some (vI x1)] [vI (jadd x1 1), aR 6000 0, oR 0 0] rfl ?_
                                        refine g_lds q287 rfl rfl rfl (fun v133 => ?_)
                                        refine g_p q287 4 645 [some (aR 6000 0), some (oR 0 0), some (oR 12 0), some (vI x1)] [vI (jadd x1 2), aR 6000 0, vI v133, oR 0 0] rfl ?_
                                        refine g_lds q287 rfl rfl rfl (fun v134 => ?_)
                                        refine g_p q287 4 650 [some (aR 6000 0), some (oR 0 0), some (oR 12 0), some (vI x1)] [vI (jadd x1 3), aR 6000 0, vI v134, vI v133, oR 0 0] rfl ?_
                                        refine g_lds q287 rfl rfl rfl (fun v135 => ?_)
                                        refine g_cRI q287 rfl (g110 X v133 v134 v135 s2) rfl rfl rfl rfl rfl (fun r136 s137 => ?_)
                                        refine g_p q287 5 659 [some (aR 6000 0), some (oR 0 0), some (oR 12 0), some (vI x1)] [vI (jadd x1 1), aR 6000 0, oR 12 0, vI r136] rfl ?_
                                        refine g_lds q287 rfl rfl rfl (fun v138 => ?_)
                                        refine g_p q287 4 664 [some (aR 6000 0), some (oR 0 0), some (oR 12 0), some (vI x1)] [vI (jadd x1 2), aR 6000 0, vI v138, oR 12 0, vI r136] rfl ?_
                                        refine g_lds q287 rfl rfl rfl (fun v139 => ?_)
                                        refine g_p q287 4 669 [some (aR 6000 0), some (oR 0 0), some (oR 12 0), some (vI x1)] [vI (jadd x1 3), aR 6000 0, vI v139, vI v138, oR 12 0, vI r136] rfl ?_
                                        refine g_lds q287 rfl rfl rfl (fun v140 => ?_)
                                        refine g_cRI q287 rfl (g239 X v138 v139 v140 s137) rfl rfl rfl rfl rfl (fun r141 s142 => ?_)
                                        refine g_i2 q287 rfl rfl ?_ ?_
                                        ·
                                          refine g_inc (fun v143 => [some (aR 6000 0), some (oR 0 0), some (oR 12 0), some (vI v143)]) q287 rfl rfl (fun _ => rfl) (fun v143 => ?_)
                                          refine g_p q287 1 18 [some (aR 6000 0), some (oR 0 0), some (oR 12 0), some (vI v143)] [] rfl ?_
                                          exact g_end (fun h => g_wk [true, true, true, true] rfl h)
                                        ·
                                          exact g_end (fun h => g_wk [false, false, false, false] rfl h)
                                      ·
                                        refine g_swc ?_ ?_
                                        ·
                                          refine g_p q287 5 683 [some (aR 6000 0), some (oR 0 0), some (oR 12 0), some (vI x1)] [vI (jadd x1 1), aR 6000 0, oR 0 0] rfl ?_
                                          refine g_lds q287 rfl rfl rfl (fun v144 => ?_)
                                          refine g_p q287 4 688 [some (aR 6000 0), some (oR 0 0), some (oR 12 0), some (vI x1)] [vI (jadd x1 2), aR 6000 0, vI v144, oR 0 0] rfl ?_
                                          refine g_lds q287 rfl rfl rfl (fun v145 => ?_)
                                          refine g_p q287 4 693 [some (aR 6000 0), some (oR 0 0), some (oR 12 0), some (vI x1)] [vI (jadd x1 3), aR 6000 0, vI v145, vI v144, oR 0 0] rfl ?_
                                          refine g_lds q287 rfl rfl rfl (fun v146 => ?_)
                                          refine g_p q287 4 698 [some (aR 6000 0), some (oR 0 0), some (oR 12 0), some (vI x1)] [vI (jadd x1 4), aR 6000 0, vI v146, vI v145, vI v144, oR 0 0] rfl ?_
                                          refine g_lds q287 rfl rfl rfl (fun v147 => ?_)
                                          refine g_cRI q287 rfl (g117 X v144 v145 v146 v147 s2) rfl rfl rfl rfl rfl (fun r148 s149 => ?_)
                                          refine g_p q287 5 707 [some (aR 6000 0), some (oR 0 0), some (oR 12 0), some (vI x1)] [vI (jadd x1 1), aR 6000 0, oR 12 0, vI r148] rfl ?_
                                          refine g_lds q287 rfl rfl rfl (fun v150 => ?_)
                                          refine g_p q287 4 712 [some (aR 6000 0), some (oR 0 0), some (oR 12 0), some (vI x1)] [vI (jadd x1 2), aR 6000 0, vI v150, oR 12 0, vI r148] rfl ?_
                                          refine g_lds q287 rfl rfl rfl (fun v151 => ?_)
                                          refine g_p q287 4 717 [some (aR 6000 0), some (oR 0 0), some (oR 12 0), some (vI x1)] [vI (jadd x1 3), aR 6000 0, vI v151, vI v150, oR 12 0, vI r148] rfl ?_
                                          refine g_lds q287 rfl rfl rfl (fun v152 => ?_)
                                          refine g_p q287 4 722 [some (aR 6000 0), some (oR 0 0), some (oR 12 0), some (vI x1)] [vI (jadd x1 4), aR 6000 0, vI v152, vI v151, vI v150, oR 12 0, vI r148] rfl ?_
                                          refine g_lds q287 rfl rfl rfl (fun v153 => ?_)
                                          refine g_cRI q287 rfl (g242 X v150 v151 v152 v153 s149) rfl rfl rfl rfl rfl (fun r154 s155 => ?_)
                                          refine g_i2 q287 rfl rfl ?_ ?_
                                          ·
                                            refine g_inc (fun v156 => [some (aR 6000 0), some (oR 0 0), some (oR 12 0), some (vI v156)]) q287 rfl rfl (fun _ => rfl) (fun v156 => ?_)
                                            refine g_p q287 1 18 [some (aR 6000 0), some (oR 0 0), some (oR 12 0), some (vI v156)] [] rfl ?_
                                            exact g_end (fun h => g_wk [true, true, true, true] rfl h)
                                          ·
                                            exact g_end (fun h => g_wk [false, false, false, false] rfl h)
                                        ·
                                          refine g_swc ?_ ?_
                                          ·
                                            refine g_p q287 5 736 [some (aR 6000 0), some (oR 0 0), some (oR 12 0), some (vI x1)] [vI (jadd x1 1), aR 6000 0, oR 0 0] rfl ?_
                                            refine g_lds q287 rfl rfl rfl (fun v157 => ?_)
                                            refine g_p q287 4 741 [some (aR 6000 0), some (oR 0 0), some (oR 12 0), some (vI x1)] [vI (jadd x1 2), aR 6000 0, vI v157, oR 0 0] rfl ?_
                                            refine g_lds q287 rfl rfl rfl (fun v158 => ?_)
                                            refine g_cRI q287 rfl (g122 X v157 v158 s2) rfl rfl rfl rfl rfl (fun r159 s160 => ?_)
                                            refine g_p q287 5 750 [some (aR 6000 0), some (oR 0 0), some (oR 12 0), some (vI x1)] [vI (jadd x1 1), aR 6000 0, oR 12 0, vI r159] rfl ?_
                                            refine g_lds q287 rfl rfl rfl (fun v161 => ?_)
                                            refine g_p q287 4 755 [some (aR 6000 0), some (oR 0 0), some (oR 12 0), some (vI x1)] [vI (jadd x1 2), aR 6000 0, vI v161, oR 12 0, vI r159] rfl ?_
                                            refine g_lds q287 rfl rfl rfl (fun v162 => ?_)
                                            refine g_cRI q287 rfl (g247 X v161 v162 s160) rfl rfl rfl rfl rfl (fun r163 s164 => ?_)
                                            refine g_i2 q287 rfl rfl ?_ ?_
                                            ·
                                              refine g_inc (fun v165 => [some (aR 6000 0), some (oR 0 0), some (oR 12 0), some (vI v165)]) q287 rfl rfl (fun _ => rfl) (fun v165 => ?_)
                                              refine g_p q287 1 18 [some (aR 6000 0), some (oR 0 0), some (oR 12 0), some (vI v165)] [] rfl ?_
                                              exact g_end (fun h => g_wk [true, true, true, true] rfl h)
                                            ·
                                              exact g_end (fun h => g_wk [false, false, false, false] rfl h)
                                          ·
                                            refine g_swc ?_ ?_
                                            ·
                                              refine g_p q287 5 769 [some (aR 6000 0), some (oR 0 0), some (oR 12 0), some (vI x1)] [vI (jadd x1 1), aR 6000 0, oR 0 0] rfl ?_
                                              refine g_lds q287 rfl rfl rfl (fun v166 => ?_)
                                              refine g_p q287 4 774 [some (aR 6000 0), some (oR 0 0), some (oR 12 0), some (vI x1)] [vI (jadd x1 2), aR 6000 0, vI v166, oR 0 0] rfl ?_
                                              refine g_lds q287 rfl rfl rfl (fun v167 => ?_)
                                              refine g_p q287 4 779 [some (aR 6000 0), some (oR 0 0), some (oR 12 0), some (vI x1)] [vI (jadd x1 3), aR 6000 0, vI v167, vI v166, oR 0 0] rfl ?_
                                              refine g_lds q287 rfl rfl rfl (fun v168 => ?_)
                                              refine g_cRI q287 rfl (g127 X v166 v167 v168 s2) rfl rfl rfl rfl rfl (fun r169 s170 => ?_)
                                              refine g_p q287 5 788 [some (aR 6000 0), some (oR 0 0), some (oR 12 0), some (vI x1)] [vI (jadd x1 1), aR 6000 0, oR 12 0, vI r169] rfl ?_
                                              refine g_lds q287 rfl rfl rfl (fun v171 => ?_)
                                              refine g_p q287 4 793 [some (aR 6000 0), some (oR 0 0), some (oR 12 0), some (vI x1)] [vI (jadd x1 2), aR 6000 0, vI v171, oR 12 0, vI r169] rfl ?_
                                              refine g_lds q287 rfl rfl rfl (fun v172 => ?_)
                                              refine g_p q287 4 798 [some (aR 6000 0), some (oR 0 0), some (oR 12 0), some (vI x1)] [vI (jadd x1 3), aR 6000 0, vI v172, vI v171, oR 12 0, vI r169] rfl ?_
                                              refine g_lds q287 rfl rfl rfl (fun v173 => ?_)
                                              refine g_cRI q287 rfl (g249 X v171 v172 v173 s170) rfl rfl rfl rfl rfl (fun r174 s175 => ?_)
                                              refine g_i2 q287 rfl rfl ?_ ?_
                                              ·
                                                refine g_inc (fun v176 => [some (aR 6000 0), some (oR 0 0), some (oR 12 0), some (vI v176)]) q287 rfl rfl (fun _ => rfl) (fun v176 => ?_)
                                                refine g_p q287 1 18 [some (aR 6000 0), some (oR 0 0), some (oR 12 0), some (vI v176)] [] rfl ?_
                                                exact g_end (fun h => g_wk [true, true, true, true] rfl h)
                                              ·
                                                exact g_end (fun h => g_wk [false, false, false, false] rfl h)
                                            ·
                                              refine g_swc ?_ ?_
                                              ·
                                                refine g_p q287 5 812 [some (aR 6000 0), some (oR 0 0), some (oR 12 0), some (vI x1)] [vI (jadd x1 1), aR 6000 0, oR 0 0] rfl ?_
                                                refine g_lds q287 rfl rfl rfl (fun v177 => ?_)
                                                refine g_p q287 4 817 [some (aR 6000 0), some (oR 0 0), some (oR 12 0), some (vI x1)] [vI (jadd x1 2), aR 6000 0, vI v177, oR 0 0] rfl ?_
                                                refine g_lds q287 rfl rfl rfl (fun v178 => ?_)
                                                refine g_p q287 4 822 [some (aR 6000 0), some (oR 0 0), some (oR 12 0), some (vI x1)] [vI (jadd x1 3), aR 6000 0, vI v178, vI v177, oR 0 0] rfl ?_
                                                refine g_lds q287 rfl rfl rfl (fun v179 => ?_)
                                                refine g_cRI q287 rfl (g128 X v177 v178 v179 s2) rfl rfl rfl rfl rfl (fun r180 s181 => ?_)
                                                refine g_p q287 5 831 [some (aR 6000 0), some (oR 0 0), some (oR 12 0), some (vI x1)] [vI (jadd x1 1), aR 6000 0, oR 12 0, vI r180] rfl ?_
                                                refine g_lds q287 rfl rfl rfl (fun v182 => ?_)
                                                refine g_p q287 4 836 [some (aR 6000 0), some (oR 0 0), some (oR 12 0), some (vI x1)] [vI (jadd x1 2), aR 6000 0, vI v182, oR 12 0, vI r180] rfl ?_
                                                refine g_lds q287 rfl rfl rfl (fun v183 => ?_)
                                                refine g_p q287 4 841 [some (aR 6000 0), some (oR 0 0), some (oR 12 0), some (vI x1)] [vI (jadd x1 3), aR 6000 0, vI v183, vI v182, oR 12 0, vI r180] rfl ?_
                                                refine g_lds q287 rfl rfl rfl (fun v184 => ?_)
                                                refine g_cRI q287 rfl (g251 X v182 v183 v184 s181) rfl rfl rfl rfl rfl (fun r185 s186 => ?_)
                                                refine g_i2 q287 rfl rfl ?_ ?_
                                                ·
                                                  refine g_inc (fun v187 => [some (aR 6000 0), some (oR 0 0), some (oR 12 0), some (vI v187)]) q287 rfl rfl (fun _ => rfl) (fun v187 => ?_)
                                                  refine g_p q287 1 18 [some (aR 6000 0), some (oR 0 0), some (oR 12 0), some (vI v187)] [] rfl ?_
                                                  exact g_end (fun h => g_wk [true, true, true, true] rfl h)
                                                ·
                                                  exact g_end (fun h => g_wk [false, false, false, false] rfl h)
                                              ·
                                                refine g_swc ?_ ?_
                                                ·
                                                  refine g_p q287 5 855 [some (aR 6000 0), some (oR 0 0), some (oR 12 0), some (vI x1)] [vI (jadd x1 1), aR 6000 0, oR 0 0] rfl ?_
                                                  refine g_lds q287 rfl rfl rfl (fun v188 => ?_)
                                                  refine g_cPI q287 rfl (g133 X v188 s2) rfl rfl rfl rfl rfl (fun r189 => ?_)
                                                  refine g_p q287 5 864 [some (aR 6000 0), some (oR 0 0), some (oR 12 0), some (vI x1)] [vI (jadd x1 1), aR 6000 0, oR 12 0, vI r189] rfl ?_
                                                  refine g_lds q287 rfl rfl rfl (fun v190 => ?_)
                                                  refine g_cPI q287 rfl (g254 X v190 s2) rfl rfl rfl rfl rfl (fun r191 => ?_)
                                                  refine g_i2 q287 rfl rfl ?_ ?_
                                                  ·
                                                    refine g_inc (fun v192 => [some (aR 6000 0), some (oR 0 0), some (oR 12 0), some (vI v192)]) q287 rfl rfl (fun _ => rfl) (fun v192 => ?_)
                                                    refine g_p q287 1 18 [some (aR 6000 0), some (oR 0 0), some (oR 12 0), some (vI v192)] [] rfl ?_
                                                    exact g_end (fun h => g_wk [true, true, true, true] rfl h)
                                                  ·
                                                    exact g_end (fun h => g_wk [false, false, false, false] rfl h)
                                                ·
                                                  refine g_swc ?_ ?_
                                                  ·
                                                    refine g_p q287 5 878 [some (aR 6000 0), some (oR 0 0), some (oR 12 0), some (vI x1)] [vI (jadd x1 1), aR 6000 0, oR 0 0] rfl ?_
                                                    refine g_lds q287 rfl rfl rfl (fun v193 => ?_)
                                                    refine g_cPI q287 rfl (g135 X v193 s2) rfl rfl rfl rfl rfl (fun r194 => ?_)
                                                    refine g_p q287 5 887 [some (aR 6000 0), some (oR 0 0), some (oR 12 0), some (vI x1)] [vI (jadd x1 1), aR 6000 0, oR 12 0, vI r194] rfl ?_
                                                    refine g_lds q287 rfl rfl rfl (fun v195 => ?_)
                                                    refine g_cPI q287 rfl (g256 X v195 s2) rfl rfl rfl rfl rfl (fun r196 => ?_)
                                                    refine g_i2 q287 rfl rfl ?_ ?_
                                                    ·
                                                      refine g_inc (fun v197 => [some (aR 6000 0), some (oR 0 0), some (oR 12 0), some (vI v197)]) q287 rfl rfl (fun _ => rfl) (fun v197 => ?_)
                                                      refine g_p q287 1 18 [some (aR 6000 0), some (oR 0 0), some (oR 12 0), some (vI v197)] [] rfl ?_
                                                      exact g_end (fun h => g_wk [true, true, true, true] rfl h)
                                                    ·
                                                      exact g_end (fun h => g_wk [false, false, false, false] rfl h)
                                                  ·
                                                    refine g_swc ?_ ?_
                                                    ·
                                                      refine g_p q287 5 901 [some (aR 6000 0), some (oR 0 0), some (oR 12 0), some (vI x1)] [vI (jadd x1 1), aR 6000 0, oR 0 0] rfl ?_
                                                      refine g_lds q287 rfl rfl rfl (fun v198 => ?_)
                                                      refine g_p q287 4 906 [some (aR 6000 0), some (oR 0 0), some (oR 12 0), some (vI x1)] [vI (jadd x1 2), aR 6000 0, vI v198, oR 0 0] rfl ?_
                                                      refine g_lds q287 rfl rfl rfl (fun v199 => ?_)
                                                      refine g_cRI q287 rfl (g136 X v198 v199 s2) rfl rfl rfl rfl rfl (fun r200 s201 => ?_)
                                                      refine g_p q287 5 915 [some (aR 6000 0), some (oR 0 0), some (oR 12 0), some (vI x1)] [vI (jadd x1 1), aR 6000 0, oR 12 0, vI r200] rfl ?_
                                                      refine g_lds q287 rfl rfl rfl (fun v202 => ?_)
                                                      refine g_p q287 4 920 [some (aR 6000 0), some (oR 0 0), some (oR 12 0), some (vI x1)] [vI (jadd x1 2), aR 6000 0, vI v202, oR 12 0, vI r200] rfl ?_
                                                      refine g_lds q287 rfl rfl rfl (fun v203 => ?_)
                                                      refine g_cRI q287 rfl (g257 X v202 v203 s201) rfl rfl rfl rfl rfl (fun r204 s205 => ?_)
                                                      refine g_i2 q287 rfl rfl ?_ ?_
                                                      ·
                                                        refine g_inc (fun v206 => [some (aR 6000 0), some (oR 0 0), some (oR 12 0), some (vI v206)]) q287 rfl rfl (fun _ => rfl) (fun v206 => ?_)
                                                        refine g_p q287 1 18 [some (aR 6000 0), some (oR 0 0), some (oR 12 0), some (vI v206)] [] rfl ?_
                                                        exact g_end (fun h => g_wk [true, true, true, true] rfl h)
                                                      ·
                                                        exact g_end (fun h => g_wk [false, false, false, false] rfl h)
                                                    ·
                                                      refine g_swc ?_ ?_
                                                      ·
                                                        refine g_p q287 5 934 [some (aR 6000 0), some (oR 0 0), some (oR 12 0), some (vI x1)] [vI (jadd x1 1), aR 6000 0, oR 0 0] rfl ?_
                                                        refine g_lds q287 rfl rfl rfl (fun v207 => ?_)
                                                        refine g_p q287 4 939 [some (aR 6000 0), some (oR 0 0), some (oR 12 0), some (vI x1)] [vI (jadd x1 2), aR 6000 0, vI v207, oR 0 0] rfl ?_
                                                        refine g_lds q287 rfl rfl rfl (fun v208 => ?_)
                                                        refine g_p q287 4 944 [some (aR 6000 0), some (oR 0 0), some (oR 12 0), some (vI x1)] [vI (jadd x1 3), aR 6000 0, vI v208, vI v207, oR 0 0] rfl ?_
                                                        refine g_lds q287 rfl rfl rfl (fun v209 => ?_)
                                                        refine g_cRI q287 rfl (g137 X v207 v208 v209 s2) rfl rfl rfl rfl rfl (fun r210 s211 => ?_)
                                                        refine g_p q287 5 953 [some (aR 6000 0), some (oR 0 0), some (oR 12 0), some (vI x1)] [vI (jadd x1 1), aR 6000 0, oR 12 0, vI r210] rfl ?_
                                                        refine g_lds q287 rfl rfl rfl (fun v212 => ?_)
                                                        refine g_p q287 4 958 [some (aR 6000 0), some (oR 0 0), some (oR 12 0), some (vI x1)] [vI (jadd x1 2), aR 6000 0, vI v212, oR 12 0, vI r210] rfl ?_
                                                        refine g_lds q287 rfl rfl rfl (fun v213 => ?_)
                                                        refine g_p q287 4 963 [some (aR 6000 0), some (oR 0 0), some (oR 12 0), some (vI x1)] [vI (jadd x1 3), aR 6000 0, vI v213, vI v212, oR 12 0, vI r210] rfl ?_
                                                        refine g_lds q287 rfl rfl rfl (fun v214 => ?_)
                                                        refine g_cRI q287 rfl (g258 X v212 v213 v214 s211) rfl rfl rfl rfl rfl (fun r215 s216 => ?_)
                                                        refine g_i2 q287 rfl rfl ?_ ?_
                                                        ·
                                                          refine g_inc (fun v217 => [some (aR 6000 0), some (oR 0 0), some (oR 12 0), some (vI v217)]) q287 rfl rfl (fun _ => rfl) (fun v217 => ?_)
                                                          refine g_p q287 1 18 [some (aR 6000 0), some (oR 0 0), some (oR 12 0), some (vI v217)] [] rfl ?_
                                                          exact g_end (fun h => g_wk [true, true, true, true] rfl h)
                                                        ·
                                                          exact g_end (fun h => g_wk [false, false, false, false] rfl h)
                                                      ·
                                                        refine g_swc ?_ ?_
                                                        ·
                                                          refine g_p q287 5 977 [some (aR 6000 0), some (oR 0 0), some (oR 12 0), some (vI x1)] [vI (jadd x1 1), aR 6000 0, oR 0 0] rfl ?_
                                                          refine g_lds q287 rfl rfl rfl (fun v218 => ?_)
                                                          refine g_cRI q287 rfl (g139 X v218 s2) rfl rfl rfl rfl rfl (fun r219 s220 => ?_)
                                                          refine g_p q287 5 986 [some (aR 6000 0), some (oR 0 0), some (oR 12 0), some (vI x1)] [vI (jadd x1 1), aR 6000 0, oR 12 0, vI r219] rfl ?_
                                                          refine g_lds q287 rfl rfl rfl (fun v221 => ?_)
                                                          refine g_cRI q287 rfl (g259 X v221 s220) rfl rfl rfl rfl rfl (fun r222 s223 => ?_)
                                                          refine g_i2 q287 rfl rfl ?_ ?_
                                                          ·
                                                            refine g_inc (fun v224 => [some (aR 6000 0), some (oR 0 0), some (oR 12 0), some (vI v224)]) q287 rfl rfl (fun _ => rfl) (fun v224 => ?_)
                                                            refine g_p q287 1 18 [some (aR 6000 0), some (oR 0 0), some (oR 12 0), some (vI v224)] [] rfl ?_
                                                            exact g_end (fun h => g_wk [true, true, true, true] rfl h)
                                                          ·
                                                            exact g_end (fun h => g_wk [false, false, false, false] rfl h)
                                                        ·
                                                          refine g_swc ?_ ?_
                                                          ·
                                                            refine g_p q287 5 1000 [some (aR 6000 0), some (oR 0 0), some (oR 12 0), some (vI x1)] [vI (jadd x1 1), aR 6000 0, oR 0 0] rfl ?_
                                                            refine g_lds q287 rfl rfl rfl (fun v225 => ?_)
                                                            refine g_p q287 4 1005 [some (aR 6000 0), some (oR 0 0), some (oR 12 0), some (vI x1)] [vI (jadd x1 2), aR 6000 0, vI v225, oR 0 0] rfl ?_
                                                            refine g_lds q287 rfl rfl rfl (fun v226 => ?_)
                                                            refine g_cRI q287 rfl (g143 X v225 v226 s2) rfl rfl rfl rfl rfl (fun r227 s228 => ?_)
                                                            refine g_p q287 5 1014 [some (aR 6000 0), some (oR 0 0), some (oR 12 0), some (vI x1)] [vI (jadd x1 1), aR 6000 0, oR 12 0, vI r227] rfl ?_
                                                            refine g_lds q287 rfl rfl rfl (fun v229 => ?_)
                                                            refine g_p q287 4 1019 [some (aR 6000 0), some (oR 0 0), some (oR 12 0), some (vI x1)] [vI (jadd x1 2), aR 6000 0, vI v229, oR 12 0, vI r227] rfl ?_
                                                            refine g_lds q287 rfl rfl rfl (fun v230 => ?_)
                                                            refine g_cRI q287 rfl (g262 X v229 v230 s228) rfl rfl rfl rfl rfl (fun r231 s232 => ?_)
                                                            refine g_i2 q287 rfl rfl ?_ ?_
                                                            ·
                                                              refine g_inc (fun v233 => [some (aR 6000 0), some (oR 0 0), some (oR 12 0), some (vI v233)]) q287 rfl rfl (fun _ => rfl) (fun v233 => ?_)
                                                              refine g_p q287 1 18 [some (aR 6000 0), some (oR 0 0), some (oR 12 0), some (vI v233)] [] rfl ?_
                                                              exact g_end (fun h => g_wk [true, true, true, true] rfl h)
                                                            ·
                                                              exact g_end (fun h => g_wk [false, false, false, false] rfl h)
                                                          ·
                                                            refine g_swc ?_ ?_
                                                            ·
                                                              refine g_p q287 5 1033 [some (aR 6000 0), some (oR 0 0), some (oR 12 0), some (vI x1)] [vI (jadd x1 1), aR 6000 0, oR 0 0] rfl ?_
                                                              refine g_lds q287 rfl rfl rfl (fun v234 => ?_)
                                                              refine g_p q287 4 1038 [some (aR 6000 0), some (oR 0 0), some (oR 12 0), some (vI x1)] [vI (jadd x1 2), aR 6000 0, vI v234, oR 0 0] rfl ?_
                                                              refine g_lds q287 rfl rfl rfl (fun v235 => ?_)
                                                              refine g_p q287 4 1043 [some (aR 6000 0), some (oR 0 0), some (oR 12 0), some (vI x1)] [vI (jadd x1 3), aR 6000 0, vI v235, vI v234, oR 0 0] rfl ?_
                                                              refine g_lds q287 rfl rfl rfl (fun v236 => ?_)
                                                              refine g_cRI q287 rfl (g146 X v234 v235 v236 s2) rfl rfl rfl rfl rfl (fun r237 s238 => ?_)
                                                              refine g_p q287 5 1052 [some (aR 6000 0), some (oR 0 0), some (oR 12 0), some (vI x1)] [vI (jadd x1 1), aR 6000 0, oR 12 0, vI r237] rfl ?_
                                                              refine g_lds q287 rfl rfl rfl (fun v239 => ?_)
                                                              refine g_p q287 4 1057 [some (aR 6000 0), some (oR 0 0), some (oR 12 0), some (vI x1)] [vI (jadd x1 2), aR 6000 0, vI v239, oR 12 0, vI r237] rfl ?_
                                                              refine g_lds q287 rfl rfl rfl (fun v240 => ?_)
                                                              refine g_p q287 4 1062 [some (aR 6000 0), some (oR 0 0), some (oR 12 0), some (vI x1)] [vI (jadd x1 3), aR 6000 0, vI v240, vI v239, oR 12 0, vI r237] rfl ?_
                                                              refine g_lds q287 rfl rfl rfl (fun v241 => ?_)
                                                              refine g_cRI q287 rfl (g263 X v239 v240 v241 s238) rfl rfl rfl rfl rfl (fun r242 s243 => ?_)
                                                              refine g_i2 q287 rfl rfl ?_ ?_
                                                              ·
                                                                refine g_inc (fun v244 => [some (aR 6000 0), some (oR 0 0), some (oR 12 0), some (vI v244)]) q287 rfl rfl (fun _ => rfl) (fun v244 => ?_)
                                                                refine g_p q287 1 18 [some (aR 6000 0), some (oR 0 0), some (oR 12 0), some (vI v244)] [] rfl ?_
                                                                exact g_end (fun h => g_wk [true, true, true, true] rfl h)
                                                              ·
                                                                exact g_end (fun h => g_wk [false, false, false, false] rfl h)
                                                            ·
                                                              refine g_swc ?_ ?_
                                                              ·
                                                                refine g_p q287 5 1076 [some (aR 6000 0), some (oR 0 0), some (oR 12 0), some (vI x1)] [vI (jadd x1 1), aR 6000 0, oR 0 0] rfl ?_
                                                                refine g_lds q287 rfl rfl rfl (fun v245 => ?_)
                                                                refine g_cRI q287 rfl (g147 X v245 s2) rfl rfl rfl rfl rfl (fun r246 s247 => ?_)
                                                                refine g_p q287 5 1085 [some (aR 6000 0), some (oR 0 0), some (oR 12 0), some (vI x1)] [vI (jadd x1 1), aR 6000 0, oR 12 0, vI r246] rfl ?_
                                                                refine g_lds q287 rfl rfl rfl (fun v248 => ?_)
                                                                refine g_cRI q287 rfl (g264 X v248 s247) rfl rfl rfl rfl rfl (fun r249 s250 => ?_)
                                                                refine g_i2 q287 rfl rfl ?_ ?_
                                                                ·
                                                                  refine g_inc (fun v251 => [some (aR 6000 0), some (oR 0 0), some (oR 12 0), some (vI v251)]) q287 rfl rfl (fun _ => rfl) (fun v251 => ?_)
                                                                  refine g_p q287 1 18 [some (aR 6000 0), some (oR 0 0), some (oR 12 0), some (vI v251)] [] rfl ?_
                                                                  exact g_end (fun h => g_wk [true, true, true, true] rfl h)
                                                                ·
                                                                  exact g_end (fun h => g_wk [false, false, false, false] rfl h)
                                                              ·
                                                                refine g_swc ?_ ?_
                                                                ·
                                                                  refine g_p q287 5 1099 [some (aR 6000 0), some (oR 0 0), some (oR 12 0), some (vI x1)] [vI (jadd x1 1), aR 6000 0, oR 0 0] rfl ?_
                                                                  refine g_lds q287 rfl rfl rfl (fun v252 => ?_)
                                                                  refine g_p q287 4 1104 [some (aR 6000 0), some (oR 0 0), some (oR 12 0), some (vI x1)] [vI (jadd x1 2), aR 6000 0, vI v252, oR 0 0] rfl ?_
                                                                  refine g_lds q287 rfl rfl rfl (fun v253 => ?_)
                                                                  refine g_p q287 4 1109 [some (aR 6000 0), some (oR 0 0), some (oR 12 0), some (vI x1)] [vI (jadd x1 3), aR 6000 0, vI v253, vI v252, oR 0 0] rfl ?_
                                                                  refine g_lds q287 rfl rfl rfl (fun v254 => ?_)
                                                                  refine g_p q287 4 1114 [some (aR 6000 0), some (oR 0 0), some (oR 12 0), some (vI x1)] [vI (jadd x1 4), aR 6000 0, vI v254, vI v253, vI v252, oR 0 0] rfl ?_
                                                                  refine g_lds q287 rfl rfl rfl (fun v255 => ?_)
                                                                  refine g_cRI q287 rfl (g148 X v252 v253 v254 v255 s2) rfl rfl rfl rfl rfl (fun r256 s257 => ?_)
                                                                  refine g_p q287 5 1123 [some (aR 6000 0), some (oR 0 0), some (oR 12 0), some (vI x1)] [vI (jadd x1 1), aR 6000 0, oR 12 0, vI r256] rfl ?_
                                                                  refine g_lds q287 rfl rfl rfl (fun v258 => ?_)
                                                                  refine g_p q287 4 1128 [some (aR 6000 0), some (oR 0 0), some (oR 12 0), some (vI x1)] [vI (jadd x1 2), aR 6000 0, vI v258, oR 12 0, vI r256] rfl ?_
                                                                  refine g_lds q287 rfl rfl rfl (fun v259 => ?_)
                                                                  refine g_p q287 4 1133 [some (aR 6000 0), some (oR 0 0), some (oR 12 0), some (vI x1)] [vI (jadd x1 3), aR 6000 0, vI v259, vI v258, oR 12 0, vI r256] rfl ?_
                                                                  refine g_lds q287 rfl rfl rfl (fun v260 => ?_)
                                                                  refine g_p q287 4 1138 [some (aR 6000 0), some (oR 0 0), some (oR 12 0), some (vI x1)] [vI (jadd x1 4), aR 6000 0, vI v260, vI v259, vI v258, oR 12 0, vI r256] rfl ?_
                                                                  refine g_lds q287 rfl rfl rfl (fun v261 => ?_)
                                                                  refine g_cRI q287 rfl (g265 X v258 v259 v260 v261 s257) rfl rfl rfl rfl rfl (fun r262 s263 => ?_)
                                                                  refine g_i2 q287 rfl rfl ?_ ?_
                                                                  ·
                                                                    refine g_inc (fun v264 => [some (aR 6000 0), some (oR 0 0), some (oR 12 0), some (vI v264)]) q287 rfl rfl (fun _ => rfl) (fun v264 => ?_)
                                                                    refine g_p q287 1 18 [some (aR 6000 0), some (oR 0 0), some (oR 12 0), some (vI v264)] [] rfl ?_
                                                                    exact g_end (fun h => g_wk [true, true, true, true] rfl h)
                                                                  ·
                                                                    exact g_end (fun h => g_wk [false, false, false, false] rfl h)
                                                                ·
                                                                  refine g_swc ?_ ?_
                                                                  ·
                                                                    refine g_p q287 5 1152 [some (aR 6000 0), some (oR 0 0), some (oR 12 0), some (vI x1)] [vI (jadd x1 1), aR 6000 0, oR 0 0] rfl ?_
                                                                    refine g_lds q287 rfl rfl rfl (fun v265 => ?_)
                                                                    refine g_cPI q287 rfl (g150 X v265 s2) rfl rfl rfl rfl rfl (fun r266 => ?_)
                                                                    refine g_p q287 5 1161 [some (aR 6000 0), some (oR 0 0), some (oR 12 0), some (vI x1)] [vI (jadd x1 1), aR 6000 0, oR 12 0, vI r266] rfl ?_
                                                                    refine g_lds q287 rfl rfl rfl (fun v267 => ?_)
                                                                    refine g_cPI q287 rfl (g268 X v267 s2) rfl rfl rfl rfl rfl (fun r268 => ?_)
                                                                    refine g_i2 q287 rfl rfl ?_ ?_
                                                                    ·
                                                                      refine g_inc (fun v269 => [some (aR 6000 0), some (oR 0 0), some (oR 12 0), some (vI v269)]) q287 rfl rfl (fun _ => rfl) (fun v269 => ?_)
                                                                      refine g_p q287 1 18 [some (aR 6000 0), some (oR 0 0), some (oR 12 0), some (vI v269)] [] rfl ?_
                                                                      exact g_end (fun h => g_wk [true, true, true, true] rfl h)
                                                                    ·
                                                                      exact g_end (fun h => g_wk [false, false, false, false] rfl h)
                                                                  ·
                                                                    refine g_swc ?_ ?_
                                                                    ·
                                                                      refine g_p q287 5 1175 [some (aR 6000 0), some (oR 0 0), some (oR 12 0), some (vI x1)] [vI (jadd x1 1), aR 6000 0, oR 0 0] rfl ?_
                                                                      refine g_lds q287 rfl rfl rfl (fun v270 => ?_)
                                                                      refine g_cRI q287 rfl (g152 X v270 s2) rfl rfl rfl rfl rfl (fun r271 s272 => ?_)
                                                                      refine g_p q287 5 1184 [some (aR 6000 0), some (oR 0 0), some (oR 12 0), some (vI x1)] [vI (jadd x1 1), aR 6000 0, oR 12 0, vI r271] rfl ?_
                                                                      refine g_lds q287 rfl rfl rfl (fun v273 => ?_)
                                                                      refine g_cRI q287 rfl (g270 X v273 s272) rfl rfl rfl rfl rfl (fun r274 s275 => ?_)
                                                                      refine g_i2 q287 rfl rfl ?_ ?_
                                                                      ·
                                                                        refine g_inc (fun v276 => [some (aR 6000 0), some (oR 0 0), some (oR 12 0), some (vI v276)]) q287 rfl rfl (fun _ => rfl) (fun v276 => ?_)
                                                                        refine g_p q287 1 18 [some (aR 6000 0), some (oR 0 0), some (oR 12 0), some (vI v276)] [] rfl ?_
                                                                        exact g_end (fun h => g_wk [true, true, true, true] rfl h)
                                                                      ·
                                                                        exact g_end (fun h => g_wk [false, false, false, false] rfl h)
                                                                    ·
                                                                      refine g_swc ?_ ?_
                                                                      ·
                                                                        refine g_p q287 5 1198 [some (aR 6000 0), some (oR 0 0), some (oR 12 0), some (vI x1)] [vI (jadd x1 1), aR 6000 0, oR 0 0] rfl ?_
                                                                        refine g_lds q287 rfl rfl rfl (fun v277 => ?_)
                                                                        refine g_cRI q287 rfl (g154 X v277 s2) rfl rfl rfl rfl rfl (fun r278 s279 => ?_)
                                                                        refine g_p q287 5 1207 [some (aR 6000 0), some (oR 0 0), some (oR 12 0), some (vI x1)] [vI (jadd x1 1), aR 6000 0, oR 12 0, vI r278] rfl ?_
                                                                        refine g_lds q287 rfl rfl rfl (fun v280 => ?_)
                                                                        refine g_cRI q287 rfl (g271 X v280 s279) rfl rfl rfl rfl rfl (fun r281 s282 => ?_)
                                                                        refine g_i2 q287 rfl rfl ?_ ?_
                                                                        ·
                                                                          refine g_inc (fun v283 => [some (aR 6000 0), some (oR 0 0), some (oR 12 0), some (vI v283)]) q287 rfl rfl (fun _ => rfl) (fun v283 => ?_)
                                                                          refine g_p q287 1 18 [some (aR 6000 0), some (oR 0 0), some (oR 12 0), some (vI v283)] [] rfl ?_
                                                                          exact g_end (fun h => g_wk [true, true, true, true] rfl h)
                                                                        ·
                                                                          exact g_end (fun h => g_wk [false, false, false, false] rfl h)
                                                                      ·
                                                                        refine g_swe ?_
                                                                        refine g_inc (fun v284 => [some (aR 6000 0), some (oR 0 0), some (oR 12 0), some (vI v284)]) q287 rfl rfl (fun _ => rfl) (fun v284 => ?_)
                                                                        refine g_p q287 1 18 [some (aR 6000 0), some (oR 0 0), some (oR 12 0), some (vI v284)] [] rfl ?_
                                                                        exact g_end (fun h => g_wk [true, true, true, true] rfl h)
set_option maxRecDepth 20000 in
theorem g287 (X : X2) (hX : X.1 ≤ 100000) (s : S2) (o : Option (AV R2) × S2) : J (f287 X s) (fun (r : Int × S2) => o = (some (vI r.1), r.2)) (Go X 202 287 16 [some (aR 6000 0), some (oR 0 0), some (oR 12 0), none] [] s o) := by
  unfold f287
  refine g_p q287 2 18 [some (aR 6000 0), some (oR 0 0), some (oR 12 0), some (vI 0)] [] rfl ?_
  refine g_wkJ [true, true, true, true] (L0 := [some (aR 6000 0), some (oR 0 0), some (oR 12 0), some (vI 0)]) rfl ?_
  refine g_itr (H287_a X o) (E287_a X o) (fun | (x1, s2) => g287_a X x1 s2 hX o) ?_
  refine g_se ?_ ?_
  ·
    intro s285
    show J _ _ (Go X 202 287 245 [none, none, none, none] [] s285 o)
    refine g_p q287 1 246 [none, none, none, none] [vI 0] rfl ?_
    exact g_ret q287 rfl rfl rfl
  ·
    refine g_se ?_ ?_
    ·
      intro s286
      show J _ _ (Go X 202 287 268 [none, none, none, none] [] s286 o)
      refine g_p q287 1 269 [none, none, none, none] [vI 0] rfl ?_
      exact g_ret q287 rfl rfl rfl
    ·
      refine g_se ?_ ?_
      ·
        intro s287
        show J _ _ (Go X 202 287 281 [none, none, none, none] [] s287 o)
        refine g_p q287 1 282 [none, none, none, none] [vI 0] rfl ?_
        exact g_ret q287 rfl rfl rfl
      ·
        refine g_se ?_ ?_
        ·
          intro s288
          show J _ _ (Go X 202 287 294 [none, none, none, none] [] s288 o)
          refine g_p q287 1 295 [none, none, none, none] [vI 0] rfl ?_
          exact g_ret q287 rfl rfl rfl
        ·
          refine g_se ?_ ?_
          ·
            intro s289
            show J _ _ (Go X 202 287 317 [none, none, none, none] [] s289 o)
            refine g_p q287 1 318 [none, none, none, none] [vI 0] rfl ?_
            exact g_ret q287 rfl rfl rfl
          ·
            refine g_se ?_ ?_
            ·
              intro s290
              show J _ _ (Go X 202 287 350 [none, none, none, none] [] s290 o)
              refine g_p q287 1 351 [none, none, none, none] [vI 0] rfl ?_
              exact g_ret q287 rfl rfl rfl
            ·
              refine g_se ?_ ?_
              ·
                intro s291
                show J _ _ (Go X 202 287 383 [none, none, none, none] [] s291 o)
                refine g_p q287 1 384 [none, none, none, none] [vI 0] rfl ?_
                exact g_ret q287 rfl rfl rfl
              ·
                refine g_se ?_ ?_
                ·
                  intro s292
                  show J _ _ (Go X 202 287 416 [none, none, none, none] [] s292 o)
                  refine g_p q287 1 417 [none, none, none, none] [vI 0] rfl ?_
                  exact g_ret q287 rfl rfl rfl
                ·
                  refine g_se ?_ ?_
                  ·
                    intro s293
                    show J _ _ (Go X 202 287 429 [none, none, none, none] [] s293 o)
                    refine g_p q287 1 430 [none, none, none, none] [vI 0] rfl ?_
                    exact g_ret q287 rfl rfl rfl
                  ·
                    refine g_se ?_ ?_
                    ·
                      intro s294
                      show J _ _ (Go X 202 287 462 [none, none, none, none] [] s294 o)
                      refine g_p q287 1 463 [none, none, none, none] [vI 0] rfl ?_
                      exact g_ret q287 rfl rfl rfl
                    ·
                      refine g_se ?_ ?_
                      ·
                        intro s295
                        show J _ _ (Go X 202 287 485 [none, none, none, none] [] s295 o)
                        refine g_p q287 1 486 [none, none, none, none] [vI 0] rfl ?_
                        exact g_ret q287 rfl rfl rfl
                      ·
                        refine g_se ?_ ?_
                        ·
                          intro s296
                          show J _ _ (Go X 202 287 508 [none, none, none, none] [] s296 o)
                          refine g_p q287 1 509 [none, none, none, none] [vI 0] rfl ?_
                          exact g_ret q287 rfl rfl rfl
                        ·
                          refine g_se ?_ ?_
                          ·
                            intro s297
                            show J _ _ (Go X 202 287 531 [none, none, none, none] [] s297 o)
                            refine g_p q287 1 532 [none, none, none, none] [vI 0] rfl ?_
                            exact g_ret q287 rfl rfl rfl
                          ·
                            refine g_se ?_ ?_
                            ·
                              intro s298
                              show J _ _ (Go X 202 287 554 [none, none, none, none] [] s298 o)
                              refine g_p q287 1 555 [none, none, none, none] [vI 0] rfl ?_
                              exact g_ret q287 rfl rfl rfl
                            ·
                              refine g_se ?_ ?_
                              ·
                                intro s299
                                show J _ _ (Go X 202 287 567 [none, none, none, none] [] s299 o)
                                refine g_p q287 1 568 [none, none, none, none] [vI 0] rfl ?_
                                exact g_ret q287 rfl rfl rfl
                              ·
                                refine g_se ?_ ?_
                                ·
                                  intro s300
                                  show J _ _ (Go X 202 287 610 [none, none, none, none] [] s300 o)
                                  refine g_p q287 1 611 [none, none, none, none] [vI 0] rfl ?_
                                  exact g_ret q287 rfl rfl rfl
                                ·
                                  refine g_se ?_ ?_
                                  ·
                                    intro s301
                                    show J _ _ (Go X 202 287 633 [none, none, none, none] [] s301 o)
                                    refine g_p q287 1 634 [none, none, none, none] [vI 0] rfl ?_
                                    exact g_ret q287 rfl rfl rfl
                                  ·
                                    refine g_se ?_ ?_
                                    ·
                                      intro s302
                                      show J _ _ (Go X 202 287 676 [none, none, none, none] [] s302 o)
                                      refine g_p q287 1 677 [none, none, none, none] [vI 0] rfl ?_
                                      exact g_ret q287 rfl rfl rfl
                                    ·
                                      refine g_se ?_ ?_
                                      ·
                                        intro s303
                                        show J _ _ (Go X 202 287 729 [none, none, none, none] [] s303 o)
                                        refine g_p q287 1 730 [none, none, none, none] [vI 0] rfl ?_
                                        exact g_ret q287 rfl rfl rfl
                                      ·
                                        refine g_se ?_ ?_
                                        ·
                                          intro s304
                                          show J _ _ (Go X 202 287 762 [none, none, none, none] [] s304 o)
                                          refine g_p q287 1 763 [none, none, none, none] [vI 0] rfl ?_
                                          exact g_ret q287 rfl rfl rfl
                                        ·
                                          refine g_se ?_ ?_
                                          ·
                                            intro s305
                                            show J _ _ (Go X 202 287 805 [none, none, none, none] [] s305 o)
                                            refine g_p q287 1 806 [none, none, none, none] [vI 0] rfl ?_
                                            exact g_ret q287 rfl rfl rfl
                                          ·
                                            refine g_se ?_ ?_
                                            ·
                                              intro s306
                                              show J _ _ (Go X 202 287 848 [none, none, none, none] [] s306 o)
                                              refine g_p q287 1 849 [none, none, none, none] [vI 0] rfl ?_
                                              exact g_ret q287 rfl rfl rfl
                                            ·
                                              refine g_se ?_ ?_
                                              ·
                                                intro s307
                                                show J _ _ (Go X 202 287 871 [none, none, none, none] [] s307 o)
                                                refine g_p q287 1 872 [none, none, none, none] [vI 0] rfl ?_
                                                exact g_ret q287 rfl rfl rfl
                                              ·
                                                refine g_se ?_ ?_
                                                ·
                                                  intro s308
                                                  show J _ _ (Go X 202 287 894 [none, none, none, none] [] s308 o)
                                                  refine g_p q287 1 895 [none, none, none, none] [vI 0] rfl ?_
                                                  exact g_ret q287 rfl rfl rfl
                                                ·
                                                  refine g_se ?_ ?_
                                                  ·
                                                    intro s309
                                                    show J _ _ (Go X 202 287 927 [none, none, none, none] [] s309 o)
                                                    refine g_p q287 1 928 [none, none, none, none] [vI 0] rfl ?_
                                                    exact g_ret q287 rfl rfl rfl
                                                  ·
                                                    refine g_se ?_ ?_
                                                    ·
                                                      intro s310
                                                      show J _ _ (Go X 202 287 970 [none, none, none, none] [] s310 o)
                                                      refine g_p q287 1 971 [none, none, none, none] [vI 0] rfl ?_
                                                      exact g_ret q287 rfl rfl rfl
                                                    ·
                                                      refine g_se ?_ ?_
                                                      ·
                                                        intro s311
                                                        show J _ _ (Go X 202 287 993 [none, none, none, none] [] s311 o)
                                                        refine g_p q287 1 994 [none, none, none, none] [vI 0] rfl ?_
                                                        exact g_ret q287 rfl rfl rfl
                                                      ·
                                                        refine g_se ?_ ?_
                                                        ·
                                                          intro s312
                                                          show J _ _ (Go X 202 287 1026 [none, none, none, none] [] s312 o)
                                                          refine g_p q287 1 1027 [none, none, none, none] [vI 0] rfl ?_
                                                          exact g_ret q287 rfl rfl rfl
                                                        ·
                                                          refine g_se ?_ ?_
                                                          ·
                                                            intro s313
                                                            show J _ _ (Go X 202 287 1069 [none, none, none, none] [] s313 o)
                                                            refine g_p q287 1 1070 [none, none, none, none] [vI 0] rfl ?_
                                                            exact g_ret q287 rfl rfl rfl
                                                          ·
                                                            refine g_se ?_ ?_
                                                            ·
                                                              intro s314
                                                              show J _ _ (Go X 202 287 1092 [none, none, none, none] [] s314 o)
                                                              refine g_p q287 1 1093 [none, none, none, none] [vI 0] rfl ?_
                                                              exact g_ret q287 rfl rfl rfl
                                                            ·
                                                              refine g_se ?_ ?_
                                                              ·
                                                                intro s315
                                                                show J _ _ (Go X 202 287 1145 [none, none, none, none] [] s315 o)
                                                                refine g_p q287 1 1146 [none, none, none, none] [vI 0] rfl ?_
                                                                exact g_ret q287 rfl rfl rfl
                                                              ·
                                                                refine g_se ?_ ?_
                                                                ·
                                                                  intro s316
                                                                  show J _ _ (Go X 202 287 1168 [none, none, none, none] [] s316 o)
                                                                  refine g_p q287 1 1169 [none, none, none, none] [vI 0] rfl ?_
                                                                  exact g_ret q287 rfl rfl rfl
                                                                ·
                                                                  refine g_se ?_ ?_
                                                                  ·
                                                                    intro s317
                                                                    show J _ _ (Go X 202 287 1191 [none, none, none, none] [] s317 o)
                                                                    refine g_p q287 1 1192 [none, none, none, none] [vI 0] rfl ?_
                                                                    exact g_ret q287 rfl rfl rfl
                                                                  ·
                                                                    refine g_se ?_ ?_
                                                                    ·
                                                                      intro s318
                                                                      show J _ _ (Go X 202 287 1214 [none, none, none, none] [] s318 o)
                                                                      refine g_p q287 1 1215 [none, none, none, none] [vI 0] rfl ?_
                                                                      exact g_ret q287 rfl rfl rfl
                                                                    ·
                                                                      intro s319
                                                                      show J _ _ (Go X 202 287 1222 [none, none, none, none] [] s319 o)
                                                                      refine g_p q287 1 1223 [none, none, none, none] [vI 1] rfl ?_
                                                                      exact g_ret q287 rfl rfl rfl
