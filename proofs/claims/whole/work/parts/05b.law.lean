def KL_1149 (n L : Nat) (xs : Nat → Int32) (x3 : Int32) (mc mr : zM) : Option ((Int32 × zM × zM) ⊕ ((Int32 × zM × zM) ⊕ Int32)) :=
  zlt (x3 + (7 : Int32)) (fun v1 => some (.inl (v1, mc, mr)))
def KL_449 (n L : Nat) (xs : Nat → Int32) (x3 : Int32) (y0 : Int32) (y1 : Int32) (y3 : Int32) (mc mr : zM) : Option ((Int32 × zM × zM) ⊕ ((Int32 × zM × zM) ⊕ Int32)) :=
  zb2 (pX6_vote y1 y0 mr) (fun v3 N4 => (if y3 = v3 then (KL_1149 n L xs x3 mc N4) else (some (.inr (.inr (0 : Int32))))))
def KL_427 (n L : Nat) (xs : Nat → Int32) (x3 : Int32) (y0 : Int32) (y1 : Int32) (mc mr : zM) : Option ((Int32 × zM × zM) ⊕ ((Int32 × zM × zM) ⊕ Int32)) :=
  zb2 (pX5_vote y1 y0 mc) (fun v7 N8 => zchk (x3 + (1 : Int32)) L (zchk (x3 + (2 : Int32)) L ((if (xs (x3 + (2 : Int32)).toNatClampNeg) = 0 then (KL_449 n L xs x3 (0 : Int32) (xs (x3 + (1 : Int32)).toNatClampNeg) v7 N8 mr) else (KL_449 n L xs x3 (1 : Int32) (xs (x3 + (1 : Int32)).toNatClampNeg) v7 N8 mr)))))
def KL_400 (n L : Nat) (xs : Nat → Int32) (x3 : Int32) (y0 : Int32) (y1 : Int32) (y3 : Int32) (mc mr : zM) : Option ((Int32 × zM × zM) ⊕ ((Int32 × zM × zM) ⊕ Int32)) :=
  zb2 (pX6_thrice y1 y0 mr) (fun v13 N14 => (if y3 = v13 then (KL_1149 n L xs x3 mc N14) else (some (.inr (.inr (0 : Int32))))))
def KL_378 (n L : Nat) (xs : Nat → Int32) (x3 : Int32) (y0 : Int32) (y1 : Int32) (mc mr : zM) : Option ((Int32 × zM × zM) ⊕ ((Int32 × zM × zM) ⊕ Int32)) :=
  zb2 (pX5_thrice y1 y0 mc) (fun v17 N18 => zchk (x3 + (1 : Int32)) L (zchk (x3 + (2 : Int32)) L ((if (xs (x3 + (2 : Int32)).toNatClampNeg) = 0 then (KL_400 n L xs x3 (0 : Int32) (xs (x3 + (1 : Int32)).toNatClampNeg) v17 N18 mr) else (KL_400 n L xs x3 (1 : Int32) (xs (x3 + (1 : Int32)).toNatClampNeg) v17 N18 mr)))))
def KL_285 (n L : Nat) (xs : Nat → Int32) (x3 : Int32) (y0 : Int32) (y1 : Int32) (y3 : Int32) (mc mr : zM) : Option ((Int32 × zM × zM) ⊕ ((Int32 × zM × zM) ⊕ Int32)) :=
  zb2 (pX6_output y1 y0 mr) (fun v23 N24 => (if y3 = v23 then (KL_1149 n L xs x3 mc N24) else (some (.inr (.inr (0 : Int32))))))
def KL_263 (n L : Nat) (xs : Nat → Int32) (x3 : Int32) (y0 : Int32) (y1 : Int32) (mc mr : zM) : Option ((Int32 × zM × zM) ⊕ ((Int32 × zM × zM) ⊕ Int32)) :=
  zb2 (pX5_output y1 y0 mc) (fun v27 N28 => zchk (x3 + (1 : Int32)) L (zchk (x3 + (2 : Int32)) L ((if (xs (x3 + (2 : Int32)).toNatClampNeg) = 0 then (KL_285 n L xs x3 (0 : Int32) (xs (x3 + (1 : Int32)).toNatClampNeg) v27 N28 mr) else (KL_285 n L xs x3 (1 : Int32) (xs (x3 + (1 : Int32)).toNatClampNeg) v27 N28 mr)))))
def BL (n L : Nat) (xs : Nat → Int32) (x3 : Int32) (mc mr : zM) : Option ((Int32 × zM × zM) ⊕ ((Int32 × zM × zM) ⊕ Int32)) :=
  (if ((nI L) - (7 : Int32)) < x3 then (some (.inr (.inl (x3, mc, mr)))) else (zchk x3 L (zlt ((xs x3.toNatClampNeg) &&& (31 : Int32)) (fun v34 => (if v34 = (0 : Int32) then (zchk (x3 + (1 : Int32)) L (zchk (x3 + (2 : Int32)) L (zchk (x3 + (3 : Int32)) L (zb2 (pX5_node (xs (x3 + (1 : Int32)).toNatClampNeg) (xs (x3 + (2 : Int32)).toNatClampNeg) (xs (x3 + (3 : Int32)).toNatClampNeg) mc) (fun v40 N41 => zchk (x3 + (1 : Int32)) L (zchk (x3 + (2 : Int32)) L (zchk (x3 + (3 : Int32)) L (zb2 (pX6_node (xs (x3 + (1 : Int32)).toNatClampNeg) (xs (x3 + (2 : Int32)).toNatClampNeg) (xs (x3 + (3 : Int32)).toNatClampNeg) mr) (fun v46 N47 => (if v40 = v46 then (KL_1149 n L xs x3 N41 N47) else (some (.inr (.inr (0 : Int32)))))))))))))) else (if v34 = (1 : Int32) then (zchk (x3 + (1 : Int32)) L (zchk (x3 + (2 : Int32)) L (zb2 (pX5_feed (xs (x3 + (1 : Int32)).toNatClampNeg) (xs (x3 + (2 : Int32)).toNatClampNeg) mc) (fun v53 N54 => zchk (x3 + (1 : Int32)) L (zchk (x3 + (2 : Int32)) L (zb2 (pX6_feed (xs (x3 + (1 : Int32)).toNatClampNeg) (xs (x3 + (2 : Int32)).toNatClampNeg) mr) (fun v58 N59 => (if v53 = v58 then (KL_1149 n L xs x3 N54 N59) else (some (.inr (.inr (0 : Int32)))))))))))) else (if v34 = (2 : Int32) then (zchk (x3 + (1 : Int32)) L (zchk (x3 + (2 : Int32)) L ((if (xs (x3 + (2 : Int32)).toNatClampNeg) = 0 then (KL_263 n L xs x3 (0 : Int32) (xs (x3 + (1 : Int32)).toNatClampNeg) mc mr) else (KL_263 n L xs x3 (1 : Int32) (xs (x3 + (1 : Int32)).toNatClampNeg) mc mr))))) else (if v34 = (3 : Int32) then (zchk (x3 + (1 : Int32)) L (zchk (x3 + (2 : Int32)) L (zb2 (pX5_price (xs (x3 + (1 : Int32)).toNatClampNeg) (xs (x3 + (2 : Int32)).toNatClampNeg) mc) (fun v69 N70 => zchk (x3 + (1 : Int32)) L (zchk (x3 + (2 : Int32)) L (zb2 (pX6_price (xs (x3 + (1 : Int32)).toNatClampNeg) (xs (x3 + (2 : Int32)).toNatClampNeg) mr) (fun v74 N75 => (if v69 = v74 then (KL_1149 n L xs x3 N70 N75) else (some (.inr (.inr (0 : Int32)))))))))))) else (if v34 = (4 : Int32) then (zchk (x3 + (1 : Int32)) L (zchk (x3 + (2 : Int32)) L ((pX5_about (xs (x3 + (1 : Int32)).toNatClampNeg) (xs (x3 + (2 : Int32)).toNatClampNeg) mc).bind (fun v81 => zchk (x3 + (1 : Int32)) L (zchk (x3 + (2 : Int32)) L ((pX6_about (xs (x3 + (1 : Int32)).toNatClampNeg) (xs (x3 + (2 : Int32)).toNatClampNeg) mr).bind (fun v85 => (if v81 = v85 then (KL_1149 n L xs x3 mc mr) else (some (.inr (.inr (0 : Int32)))))))))))) else (if v34 = (5 : Int32) then (zchk (x3 + (1 : Int32)) L (zchk (x3 + (2 : Int32)) L ((if (xs (x3 + (2 : Int32)).toNatClampNeg) = 0 then (KL_378 n L xs x3 (0 : Int32) (xs (x3 + (1 : Int32)).toNatClampNeg) mc mr) else (KL_378 n L xs x3 (1 : Int32) (xs (x3 + (1 : Int32)).toNatClampNeg) mc mr))))) else (if v34 = (6 : Int32) then (zchk (x3 + (1 : Int32)) L (zchk (x3 + (2 : Int32)) L ((if (xs (x3 + (2 : Int32)).toNatClampNeg) = 0 then (KL_427 n L xs x3 (0 : Int32) (xs (x3 + (1 : Int32)).toNatClampNeg) mc mr) else (KL_427 n L xs x3 (1 : Int32) (xs (x3 + (1 : Int32)).toNatClampNeg) mc mr))))) else (if v34 = (7 : Int32) then (zchk (x3 + (1 : Int32)) L (zb2 (pX5_ticks (xs (x3 + (1 : Int32)).toNatClampNeg) mc) (fun v98 N99 => zchk (x3 + (1 : Int32)) L (zb2 (pX6_ticks (xs (x3 + (1 : Int32)).toNatClampNeg) mr) (fun v102 N103 => (if v98 = v102 then (KL_1149 n L xs x3 N99 N103) else (some (.inr (.inr (0 : Int32)))))))))) else (if v34 = (8 : Int32) then (zchk (x3 + (1 : Int32)) L (zchk (x3 + (2 : Int32)) L (zb2 (pX5_plain n (xs (x3 + (1 : Int32)).toNatClampNeg) (xs (x3 + (2 : Int32)).toNatClampNeg) mc) (fun v109 N110 => zchk (x3 + (1 : Int32)) L (zchk (x3 + (2 : Int32)) L (zb2 (pX6_plain n (xs (x3 + (1 : Int32)).toNatClampNeg) (xs (x3 + (2 : Int32)).toNatClampNeg) mr) (fun v114 N115 => (if v109 = v114 then (KL_1149 n L xs x3 N110 N115) else (some (.inr (.inr (0 : Int32)))))))))))) else (if v34 = (9 : Int32) then (zchk (x3 + (1 : Int32)) L (zchk (x3 + (2 : Int32)) L (zchk (x3 + (3 : Int32)) L (zb2 (pX5_copy n (xs (x3 + (1 : Int32)).toNatClampNeg) (xs (x3 + (2 : Int32)).toNatClampNeg) (xs (x3 + (3 : Int32)).toNatClampNeg) mc) (fun v122 N123 => zchk (x3 + (1 : Int32)) L (zchk (x3 + (2 : Int32)) L (zchk (x3 + (3 : Int32)) L (zb2 (pX6_copy n (xs (x3 + (1 : Int32)).toNatClampNeg) (xs (x3 + (2 : Int32)).toNatClampNeg) (xs (x3 + (3 : Int32)).toNatClampNeg) mr) (fun v128 N129 => (if v122 = v128 then (KL_1149 n L xs x3 N123 N129) else (some (.inr (.inr (0 : Int32)))))))))))))) else (if v34 = (10 : Int32) then (zchk (x3 + (1 : Int32)) L (zchk (x3 + (2 : Int32)) L (zchk (x3 + (3 : Int32)) L (zb2 (pX5_flip n (xs (x3 + (1 : Int32)).toNatClampNeg) (xs (x3 + (2 : Int32)).toNatClampNeg) (xs (x3 + (3 : Int32)).toNatClampNeg) mc) (fun v136 N137 => zchk (x3 + (1 : Int32)) L (zchk (x3 + (2 : Int32)) L (zchk (x3 + (3 : Int32)) L (zb2 (pX6_flip n (xs (x3 + (1 : Int32)).toNatClampNeg) (xs (x3 + (2 : Int32)).toNatClampNeg) (xs (x3 + (3 : Int32)).toNatClampNeg) mr) (fun v142 N143 => (if v136 = v142 then (KL_1149 n L xs x3 N137 N143) else (some (.inr (.inr (0 : Int32)))))))))))))) else (if v34 = (11 : Int32) then (zchk (x3 + (1 : Int32)) L (zchk (x3 + (2 : Int32)) L (zchk (x3 + (3 : Int32)) L (zchk (x3 + (4 : Int32)) L (zchk (x3 + (5 : Int32)) L (zchk (x3 + (6 : Int32)) L (zb2 (pX5_flips n (xs (x3 + (1 : Int32)).toNatClampNeg) (xs (x3 + (2 : Int32)).toNatClampNeg) (xs (x3 + (3 : Int32)).toNatClampNeg) (xs (x3 + (4 : Int32)).toNatClampNeg) (xs (x3 + (5 : Int32)).toNatClampNeg) (xs (x3 + (6 : Int32)).toNatClampNeg) mc) (fun v153 N154 => zchk (x3 + (1 : Int32)) L (zchk (x3 + (2 : Int32)) L (zchk (x3 + (3 : Int32)) L (zchk (x3 + (4 : Int32)) L (zchk (x3 + (5 : Int32)) L (zchk (x3 + (6 : Int32)) L (zb2 (pX6_flips n (xs (x3 + (1 : Int32)).toNatClampNeg) (xs (x3 + (2 : Int32)).toNatClampNeg) (xs (x3 + (3 : Int32)).toNatClampNeg) (xs (x3 + (4 : Int32)).toNatClampNeg) (xs (x3 + (5 : Int32)).toNatClampNeg) (xs (x3 + (6 : Int32)).toNatClampNeg) mr) (fun v162 N163 => (if v153 = v162 then (KL_1149 n L xs x3 N154 N163) else (some (.inr (.inr (0 : Int32)))))))))))))))))))) else (if v34 = (12 : Int32) then (zchk (x3 + (1 : Int32)) L (zb2 (pX5_many n (xs (x3 + (1 : Int32)).toNatClampNeg) mc) (fun v168 N169 => zchk (x3 + (1 : Int32)) L (zb2 (pX6_many n (xs (x3 + (1 : Int32)).toNatClampNeg) mr) (fun v172 N173 => (if v168 = v172 then (KL_1149 n L xs x3 N169 N173) else (some (.inr (.inr (0 : Int32)))))))))) else (if v34 = (13 : Int32) then (zb2 (pX5_first n mc) (fun v177 N178 => zb2 (pX6_first n mr) (fun v180 N181 => (if v177 = v180 then (KL_1149 n L xs x3 N178 N181) else (some (.inr (.inr (0 : Int32)))))))) else (if v34 = (14 : Int32) then (zchk (x3 + (1 : Int32)) L (zb2 (pX5_masked n (xs (x3 + (1 : Int32)).toNatClampNeg) mc) (fun v186 N187 => zchk (x3 + (1 : Int32)) L (zb2 (pX6_masked n (xs (x3 + (1 : Int32)).toNatClampNeg) mr) (fun v190 N191 => (if v186 = v190 then (KL_1149 n L xs x3 N187 N191) else (some (.inr (.inr (0 : Int32)))))))))) else (if v34 = (15 : Int32) then (zchk (x3 + (1 : Int32)) L (zb2 (pX5_pairs n (xs (x3 + (1 : Int32)).toNatClampNeg) mc) (fun v196 N197 => zchk (x3 + (1 : Int32)) L (zb2 (pX6_pairs n (xs (x3 + (1 : Int32)).toNatClampNeg) mr) (fun v200 N201 => (if v196 = v200 then (KL_1149 n L xs x3 N197 N201) else (some (.inr (.inr (0 : Int32)))))))))) else (if v34 = (16 : Int32) then (zchk (x3 + (1 : Int32)) L (zchk (x3 + (2 : Int32)) L (zb2 (pX5_leads n (xs (x3 + (1 : Int32)).toNatClampNeg) (xs (x3 + (2 : Int32)).toNatClampNeg) mc) (fun v207 N208 => zchk (x3 + (1 : Int32)) L (zchk (x3 + (2 : Int32)) L (zb2 (pX6_leads n (xs (x3 + (1 : Int32)).toNatClampNeg) (xs (x3 + (2 : Int32)).toNatClampNeg) mr) (fun v212 N213 => (if v207 = v212 then (KL_1149 n L xs x3 N208 N213) else (some (.inr (.inr (0 : Int32)))))))))))) else (if v34 = (17 : Int32) then (zchk (x3 + (1 : Int32)) L (zb2 (pX5_breaks n (xs (x3 + (1 : Int32)).toNatClampNeg) mc) (fun v218 N219 => zchk (x3 + (1 : Int32)) L (zb2 (pX6_breaks n (xs (x3 + (1 : Int32)).toNatClampNeg) mr) (fun v222 N223 => (if v218 = v222 then (KL_1149 n L xs x3 N219 N223) else (some (.inr (.inr (0 : Int32)))))))))) else (if v34 = (18 : Int32) then (zb2 (pX5_best n mc) (fun v227 N228 => zb2 (pX6_best n mr) (fun v230 N231 => (if v227 = v230 then (KL_1149 n L xs x3 N228 N231) else (some (.inr (.inr (0 : Int32)))))))) else (if v34 = (19 : Int32) then (zb2 (pX5_harden n mc) (fun v235 N236 => zb2 (pX6_harden n mr) (fun v238 N239 => (if v235 = v238 then (KL_1149 n L xs x3 N236 N239) else (some (.inr (.inr (0 : Int32)))))))) else (if v34 = (20 : Int32) then (zchk (x3 + (1 : Int32)) L (zb2 (pX5_voter (xs (x3 + (1 : Int32)).toNatClampNeg) mc) (fun v244 N245 => zchk (x3 + (1 : Int32)) L (zb2 (pX6_voter (xs (x3 + (1 : Int32)).toNatClampNeg) mr) (fun v248 N249 => (if v244 = v248 then (KL_1149 n L xs x3 N245 N249) else (some (.inr (.inr (0 : Int32)))))))))) else (if v34 = (21 : Int32) then ((pX5_cost n mc).bind (fun v253 => (pX6_cost n mr).bind (fun v255 => (if v253 = v255 then (KL_1149 n L xs x3 mc mr) else (some (.inr (.inr (0 : Int32)))))))) else (if v34 = (22 : Int32) then (zb2 (pX5_slow n mc) (fun v259 N260 => zb2 (pX6_slow n mr) (fun v262 N263 => (if v259 = v262 then (KL_1149 n L xs x3 N260 N263) else (some (.inr (.inr (0 : Int32)))))))) else (if v34 = (23 : Int32) then (zchk (x3 + (1 : Int32)) L (zchk (x3 + (2 : Int32)) L (zchk (x3 + (3 : Int32)) L (zb2 (pX5_sheet n (xs (x3 + (1 : Int32)).toNatClampNeg) (xs (x3 + (2 : Int32)).toNatClampNeg) (xs (x3 + (3 : Int32)).toNatClampNeg) mc) (fun v270 N271 => zchk (x3 + (1 : Int32)) L (zchk (x3 + (2 : Int32)) L (zchk (x3 + (3 : Int32)) L (zb2 (pX6_sheet n (xs (x3 + (1 : Int32)).toNatClampNeg) (xs (x3 + (2 : Int32)).toNatClampNeg) (xs (x3 + (3 : Int32)).toNatClampNeg) mr) (fun v276 N277 => (if v270 = v276 then (KL_1149 n L xs x3 N271 N277) else (some (.inr (.inr (0 : Int32)))))))))))))) else (if v34 = (24 : Int32) then (zchk (x3 + (1 : Int32)) L (zb2 (pX5_lose (xs (x3 + (1 : Int32)).toNatClampNeg) mc) (fun v282 N283 => zchk (x3 + (1 : Int32)) L (zb2 (pX6_lose (xs (x3 + (1 : Int32)).toNatClampNeg) mr) (fun v286 N287 => (if v282 = v286 then (KL_1149 n L xs x3 N283 N287) else (some (.inr (.inr (0 : Int32)))))))))) else (if v34 = (25 : Int32) then (zchk (x3 + (1 : Int32)) L (zchk (x3 + (2 : Int32)) L (zchk (x3 + (3 : Int32)) L (zchk (x3 + (4 : Int32)) L (zb2 (pX5_put (xs (x3 + (1 : Int32)).toNatClampNeg) (xs (x3 + (2 : Int32)).toNatClampNeg) (xs (x3 + (3 : Int32)).toNatClampNeg) (xs (x3 + (4 : Int32)).toNatClampNeg) mc) (fun v295 N296 => zchk (x3 + (1 : Int32)) L (zchk (x3 + (2 : Int32)) L (zchk (x3 + (3 : Int32)) L (zchk (x3 + (4 : Int32)) L (zb2 (pX6_put (xs (x3 + (1 : Int32)).toNatClampNeg) (xs (x3 + (2 : Int32)).toNatClampNeg) (xs (x3 + (3 : Int32)).toNatClampNeg) (xs (x3 + (4 : Int32)).toNatClampNeg) mr) (fun v302 N303 => (if v295 = v302 then (KL_1149 n L xs x3 N296 N303) else (some (.inr (.inr (0 : Int32)))))))))))))))) else (if v34 = (26 : Int32) then (zchk (x3 + (1 : Int32)) L (zchk (x3 + (2 : Int32)) L (zchk (x3 + (3 : Int32)) L (zb2 (pX5_get (xs (x3 + (1 : Int32)).toNatClampNeg) (xs (x3 + (2 : Int32)).toNatClampNeg) (xs (x3 + (3 : Int32)).toNatClampNeg) mc) (fun v310 N311 => zchk (x3 + (1 : Int32)) L (zchk (x3 + (2 : Int32)) L (zchk (x3 + (3 : Int32)) L (zb2 (pX6_get (xs (x3 + (1 : Int32)).toNatClampNeg) (xs (x3 + (2 : Int32)).toNatClampNeg) (xs (x3 + (3 : Int32)).toNatClampNeg) mr) (fun v316 N317 => (if v310 = v316 then (KL_1149 n L xs x3 N311 N317) else (some (.inr (.inr (0 : Int32)))))))))))))) else (if v34 = (27 : Int32) then (zchk (x3 + (1 : Int32)) L (zchk (x3 + (2 : Int32)) L (zchk (x3 + (3 : Int32)) L (zchk (x3 + (4 : Int32)) L (zchk (x3 + (5 : Int32)) L (zb2 (pX5_move (xs (x3 + (1 : Int32)).toNatClampNeg) (xs (x3 + (2 : Int32)).toNatClampNeg) (xs (x3 + (3 : Int32)).toNatClampNeg) (xs (x3 + (4 : Int32)).toNatClampNeg) (xs (x3 + (5 : Int32)).toNatClampNeg) mc) (fun v326 N327 => zchk (x3 + (1 : Int32)) L (zchk (x3 + (2 : Int32)) L (zchk (x3 + (3 : Int32)) L (zchk (x3 + (4 : Int32)) L (zchk (x3 + (5 : Int32)) L (zb2 (pX6_move n (xs (x3 + (1 : Int32)).toNatClampNeg) (xs (x3 + (2 : Int32)).toNatClampNeg) (xs (x3 + (3 : Int32)).toNatClampNeg) (xs (x3 + (4 : Int32)).toNatClampNeg) (xs (x3 + (5 : Int32)).toNatClampNeg) mr) (fun v334 N335 => (if v326 = v334 then (KL_1149 n L xs x3 N327 N335) else (some (.inr (.inr (0 : Int32)))))))))))))))))) else (if v34 = (28 : Int32) then (zchk (x3 + (1 : Int32)) L ((pX5_count n (xs (x3 + (1 : Int32)).toNatClampNeg) mc).bind (fun v340 => zchk (x3 + (1 : Int32)) L ((pX6_count n (xs (x3 + (1 : Int32)).toNatClampNeg) mr).bind (fun v343 => (if v340 = v343 then (KL_1149 n L xs x3 mc mr) else (some (.inr (.inr (0 : Int32)))))))))) else (if v34 = (29 : Int32) then (zb2 (pX5_digest n mc) (fun v347 N348 => zb2 (pX6_digest n mr) (fun v350 N351 => (if (lg_cmp v347 v350) = 0 then (KL_1149 n L xs x3 N348 N351) else (some (.inr (.inr (0 : Int32)))))))) else (KL_1149 n L xs x3 mc mr)))))))))))))))))))))))))))))))))))
def pL (n L : Nat) (xs : Nat → Int32) (mc mr : zM) : Option Int32 :=
  (zwl (fun q => BL n L xs q.1 q.2.1 q.2.2) n ((0 : Int32), mc, mr)).bind (fun q => Sum.elim (fun _ => some 1) (fun x => some x) q)
set_option maxHeartbeats 4000000 in
set_option maxRecDepth 100000 in
theorem law_ok {p : Program} {l : Launch} {e : Env} {R : Room} {s : State} {m : MethodId} {args : Array Value} {below : List Frame} {meth : Method} {c : Code} {D : va_G} {ck : Nat → ClassId} {A : Nat → Prop} {kc ks : Nat} {Q : State → Prop} {adC adR : Nat → Nat} {b L : Nat} {xs : Nat → Int32}
    (C : za_Cx p s m args c cL_law 4 wsL_law RL D ck A) (hR1 : 9 ≤ R.frames) (hR2 : 352 ≤ R.locals) (hcs : kc + 0 ≤ R.cells ∧ ks + 0 ≤ R.slots) (hX : va_X b L xs s s.heap) (hbl : b < s.heap.size) (hbA : ¬ A b)
    (n : Nat) (mc0 mr0 : zM) (hf : pL n L xs mc0 mr0 = some 1) (hend : ∀ x3 mc mr, za_At p l e R s m args below meth c D A 4 kc ks Q 1155 [(0, .ref b), (1, .ref (adC 0)), (2, .ref (adR 0)), (3, .int x3)] [] (wL adC adR ck mc mr)) : za_At p l e R s m args below meth c D A 4 kc ks Q 18 [(0, .ref b), (1, .ref (adC 0)), (2, .ref (adR 0)), (3, .int (0 : Int32))] [] (wL adC adR ck mc0 mr0) := by
  unfold pL at hf
  obtain ⟨q9, hw, hf⟩ := z_bind hf
  refine z_wl (P := fun q => za_At p l e R s m args below meth c D A 4 kc ks Q 18 [(0, .ref b), (1, .ref (adC 0)), (2, .ref (adR 0)), (3, .int q.1)] [] (wL adC adR ck q.2.1 q.2.2)) (E := fun q => Sum.elim (fun q => za_At p l e R s m args below meth c D A 4 kc ks Q 1155 [(0, .ref b), (1, .ref (adC 0)), (2, .ref (adR 0)), (3, .int q.1)] [] (wL adC adR ck q.2.1 q.2.2)) (fun x => x = 1) q) ?_ ?_ _ _ hw
  · intro q o hf hN hE
    obtain ⟨x3, mc, mr⟩ := q
    have hf : BL n L xs x3 mc mr = some o := hf
    unfold BL at hf
    have j_1149 : ∀ (x3 : Int32) (mc mr : zM), KL_1149 n L xs x3 mc mr = some o → za_At p l e R s m args below meth c D A 4 kc ks Q 1149 [(0, .ref b), (1, .ref (adC 0)), (2, .ref (adR 0)), (3, .int x3)] [] (wL adC adR ck mc mr) := by
      intro x3 mc mr hf
      unfold KL_1149 at hf
      obtain ⟨v1, ev1, hf⟩ := z_lt hf
      refine za_iinc (k9 := (7 : Int32)) C [(3, .int v1), (0, .ref b), (1, .ref (adC 0)), (2, .ref (adR 0))] 3 rfl (by decide) ev1 (by decide) rfl dL_law_1149 ?_
      refine za_goto C 18 (by decide) dL_law_1152 ?_
      exact za_sub [1, 2, 3, 0] rfl (hN _ (z_inj hf))
    have j_449 : ∀ (x3 : Int32) (y0 : Int32) (y1 : Int32) (y3 : Int32) (mc mr : zM), KL_449 n L xs x3 y0 y1 y3 mc mr = some o → za_At p l e R s m args below meth c D A 4 kc ks Q 449 [(0, .ref b), (1, .ref (adC 0)), (2, .ref (adR 0)), (3, .int x3)] [.int y0, .int y1, .ref (adR 0), .int y3] (wL adC adR ck mc mr) := by
      intro x3 y0 y1 y3 mc mr hf
      unfold KL_449 at hf
      obtain ⟨v3, N4, hc2, hf⟩ := z_b2 hf
      refine za_callRL (n := 2) (rest := [.int y3]) C (cX6_vote_ok l D ck adR y1 y0 mr _ _ hc2) gL_law_X6_vote rfl rfl rfl (by decide +kernel) ⟨Nat.le_trans (Nat.le_of_ble_eq_true rfl) hR1, Nat.le_trans (Nat.le_of_ble_eq_true rfl) hR2⟩ rfl rfl (Nat.le_of_ble_eq_true rfl) hcs dL_law_449 ?_
      refine za_icmp_eq C 1149 (by decide) dL_law_452 (fun q5 => ?_) (fun q5 => ?_)
      · have hf := z_pos q5 hf
        exact za_sub [0, 1, 2, 3] rfl (j_1149 x3 mc N4 hf)
      · have hf := z_neg q5 hf
        refine za_iconst (v := (0 : Int32)) C (by decide) dL_law_455 ?_
        exact absurd (show (0 : Int32) = 1 from hE _ (z_inj hf)) (by decide)
    have j_427 : ∀ (x3 : Int32) (y0 : Int32) (y1 : Int32) (mc mr : zM), KL_427 n L xs x3 y0 y1 mc mr = some o → za_At p l e R s m args below meth c D A 4 kc ks Q 427 [(0, .ref b), (1, .ref (adC 0)), (2, .ref (adR 0)), (3, .int x3)] [.int y0, .int y1, .ref (adC 0)] (wL adC adR ck mc mr) := by
      intro x3 y0 y1 mc mr hf
      unfold KL_427 at hf
      obtain ⟨v7, N8, hc6, hf⟩ := z_b2 hf
      refine za_callCL (n := 2) (rest := []) C (cX5_vote_ok l D ck adC y1 y0 mc _ _ hc6) gL_law_X5_vote rfl rfl rfl (by decide +kernel) ⟨Nat.le_trans (Nat.le_of_ble_eq_true rfl) hR1, Nat.le_trans (Nat.le_of_ble_eq_true rfl) hR2⟩ rfl rfl (Nat.le_of_ble_eq_true rfl) hcs dL_law_427 ?_
      refine za_aload_n C 2 rfl rfl dL_law_430 ?_
      refine za_aload_n C 0 rfl rfl dL_law_431 ?_
      refine za_iload_n C 3 rfl rfl dL_law_432 ?_
      refine za_iconst (v := (1 : Int32)) C (by decide) dL_law_433 ?_
      refine za_iadd C dL_law_434 ?_
      obtain ⟨h9, hf⟩ := z_chk hf
      refine za_sld C hX hbl hbA h9 dL_law_435 ?_
      refine za_aload_n C 0 rfl rfl dL_law_436 ?_
      refine za_iload_n C 3 rfl rfl dL_law_437 ?_
      refine za_iconst (v := (2 : Int32)) C (by decide) dL_law_438 ?_
      refine za_iadd C dL_law_439 ?_
      obtain ⟨h10, hf⟩ := z_chk hf
      refine za_sld C hX hbl hbA h10 dL_law_440 ?_
      refine za_if_eq C 448 (by decide) dL_law_441 (fun q11 => ?_) (fun q11 => ?_)
      · have hf := z_pos q11 hf
        refine za_iconst (v := (0 : Int32)) C (by decide) dL_law_448 ?_
        exact za_sub [0, 1, 2, 3] rfl (j_449 x3 (0 : Int32) (xs (x3 + (1 : Int32)).toNatClampNeg) v7 N8 mr hf)
      · have hf := z_neg q11 hf
        refine za_iconst (v := (1 : Int32)) C (by decide) dL_law_444 ?_
        refine za_goto C 449 (by decide) dL_law_445 ?_
        exact za_sub [0, 1, 2, 3] rfl (j_449 x3 (1 : Int32) (xs (x3 + (1 : Int32)).toNatClampNeg) v7 N8 mr hf)
    have j_400 : ∀ (x3 : Int32) (y0 : Int32) (y1 : Int32) (y3 : Int32) (mc mr : zM), KL_400 n L xs x3 y0 y1 y3 mc mr = some o → za_At p l e R s m args below meth c D A 4 kc ks Q 400 [(0, .ref b), (1, .ref (adC 0)), (2, .ref (adR 0)), (3, .int x3)] [.int y0, .int y1, .ref (adR 0), .int y3] (wL adC adR ck mc mr) := by
      intro x3 y0 y1 y3 mc mr hf
      unfold KL_400 at hf
      obtain ⟨v13, N14, hc12, hf⟩ := z_b2 hf
      refine za_callRL (n := 2) (rest := [.int y3]) C (cX6_thrice_ok l D ck adR y1 y0 mr _ _ hc12) gL_law_X6_thrice rfl rfl rfl (by decide +kernel) ⟨Nat.le_trans (Nat.le_of_ble_eq_true rfl) hR1, Nat.le_trans (Nat.le_of_ble_eq_true rfl) hR2⟩ rfl rfl (Nat.le_of_ble_eq_true rfl) hcs dL_law_400 ?_
      refine za_icmp_eq C 1149 (by decide) dL_law_403 (fun q15 => ?_) (fun q15 => ?_)
      · have hf := z_pos q15 hf
        exact za_sub [0, 1, 2, 3] rfl (j_1149 x3 mc N14 hf)
      · have hf := z_neg q15 hf
        refine za_iconst (v := (0 : Int32)) C (by decide) dL_law_406 ?_
        exact absurd (show (0 : Int32) = 1 from hE _ (z_inj hf)) (by decide)
    have j_378 : ∀ (x3 : Int32) (y0 : Int32) (y1 : Int32) (mc mr : zM), KL_378 n L xs x3 y0 y1 mc mr = some o → za_At p l e R s m args below meth c D A 4 kc ks Q 378 [(0, .ref b), (1, .ref (adC 0)), (2, .ref (adR 0)), (3, .int x3)] [.int y0, .int y1, .ref (adC 0)] (wL adC adR ck mc mr) := by
      intro x3 y0 y1 mc mr hf
      unfold KL_378 at hf
      obtain ⟨v17, N18, hc16, hf⟩ := z_b2 hf
      refine za_callCL (n := 2) (rest := []) C (cX5_thrice_ok l D ck adC y1 y0 mc _ _ hc16) gL_law_X5_thrice rfl rfl rfl (by decide +kernel) ⟨Nat.le_trans (Nat.le_of_ble_eq_true rfl) hR1, Nat.le_trans (Nat.le_of_ble_eq_true rfl) hR2⟩ rfl rfl (Nat.le_of_ble_eq_true rfl) hcs dL_law_378 ?_
      refine za_aload_n C 2 rfl rfl dL_law_381 ?_
      refine za_aload_n C 0 rfl rfl dL_law_382 ?_
      refine za_iload_n C 3 rfl rfl dL_law_383 ?_
      refine za_iconst (v := (1 : Int32)) C (by decide) dL_law_384 ?_
      refine za_iadd C dL_law_385 ?_
      obtain ⟨h19, hf⟩ := z_chk hf
      refine za_sld C hX hbl hbA h19 dL_law_386 ?_
      refine za_aload_n C 0 rfl rfl dL_law_387 ?_
      refine za_iload_n C 3 rfl rfl dL_law_388 ?_
      refine za_iconst (v := (2 : Int32)) C (by decide) dL_law_389 ?_
      refine za_iadd C dL_law_390 ?_
      obtain ⟨h20, hf⟩ := z_chk hf
      refine za_sld C hX hbl hbA h20 dL_law_391 ?_
      refine za_if_eq C 399 (by decide) dL_law_392 (fun q21 => ?_) (fun q21 => ?_)
      · have hf := z_pos q21 hf
        refine za_iconst (v := (0 : Int32)) C (by decide) dL_law_399 ?_
        exact za_sub [0, 1, 2, 3] rfl (j_400 x3 (0 : Int32) (xs (x3 + (1 : Int32)).toNatClampNeg) v17 N18 mr hf)
      · have hf := z_neg q21 hf
        refine za_iconst (v := (1 : Int32)) C (by decide) dL_law_395 ?_
        refine za_goto C 400 (by decide) dL_law_396 ?_
        exact za_sub [0, 1, 2, 3] rfl (j_400 x3 (1 : Int32) (xs (x3 + (1 : Int32)).toNatClampNeg) v17 N18 mr hf)
    have j_285 : ∀ (x3 : Int32) (y0 : Int32) (y1 : Int32) (y3 : Int32) (mc mr : zM), KL_285 n L xs x3 y0 y1 y3 mc mr = some o → za_At p l e R s m args below meth c D A 4 kc ks Q 285 [(0, .ref b), (1, .ref (adC 0)), (2, .ref (adR 0)), (3, .int x3)] [.int y0, .int y1, .ref (adR 0), .int y3] (wL adC adR ck mc mr) := by
      intro x3 y0 y1 y3 mc mr hf
      unfold KL_285 at hf
      obtain ⟨v23, N24, hc22, hf⟩ := z_b2 hf
      refine za_callRL (n := 2) (rest := [.int y3]) C (cX6_output_ok l D ck adR y1 y0 mr _ _ hc22) gL_law_X6_output rfl rfl rfl (by decide +kernel) ⟨Nat.le_trans (Nat.le_of_ble_eq_true rfl) hR1, Nat.le_trans (Nat.le_of_ble_eq_true rfl) hR2⟩ rfl rfl (Nat.le_of_ble_eq_true rfl) hcs dL_law_285 ?_
      refine za_icmp_eq C 1149 (by decide) dL_law_288 (fun q25 => ?_) (fun q25 => ?_)
      · have hf := z_pos q25 hf
        exact za_sub [0, 1, 2, 3] rfl (j_1149 x3 mc N24 hf)
      · have hf := z_neg q25 hf
        refine za_iconst (v := (0 : Int32)) C (by decide) dL_law_291 ?_
        exact absurd (show (0 : Int32) = 1 from hE _ (z_inj hf)) (by decide)
    have j_263 : ∀ (x3 : Int32) (y0 : Int32) (y1 : Int32) (mc mr : zM), KL_263 n L xs x3 y0 y1 mc mr = some o → za_At p l e R s m args below meth c D A 4 kc ks Q 263 [(0, .ref b), (1, .ref (adC 0)), (2, .ref (adR 0)), (3, .int x3)] [.int y0, .int y1, .ref (adC 0)] (wL adC adR ck mc mr) := by
      intro x3 y0 y1 mc mr hf
      unfold KL_263 at hf
      obtain ⟨v27, N28, hc26, hf⟩ := z_b2 hf
      refine za_callCL (n := 2) (rest := []) C (cX5_output_ok l D ck adC y1 y0 mc _ _ hc26) gL_law_X5_output rfl rfl rfl (by decide +kernel) ⟨Nat.le_trans (Nat.le_of_ble_eq_true rfl) hR1, Nat.le_trans (Nat.le_of_ble_eq_true rfl) hR2⟩ rfl rfl (Nat.le_of_ble_eq_true rfl) hcs dL_law_263 ?_
      refine za_aload_n C 2 rfl rfl dL_law_266 ?_
      refine za_aload_n C 0 rfl rfl dL_law_267 ?_
      refine za_iload_n C 3 rfl rfl dL_law_268 ?_
      refine za_iconst (v := (1 : Int32)) C (by decide) dL_law_269 ?_
      refine za_iadd C dL_law_270 ?_
      obtain ⟨h29, hf⟩ := z_chk hf
      refine za_sld C hX hbl hbA h29 dL_law_271 ?_
      refine za_aload_n C 0 rfl rfl dL_law_272 ?_
      refine za_iload_n C 3 rfl rfl dL_law_273 ?_
      refine za_iconst (v := (2 : Int32)) C (by decide) dL_law_274 ?_
      refine za_iadd C dL_law_275 ?_
      obtain ⟨h30, hf⟩ := z_chk hf
      refine za_sld C hX hbl hbA h30 dL_law_276 ?_
      refine za_if_eq C 284 (by decide) dL_law_277 (fun q31 => ?_) (fun q31 => ?_)
      · have hf := z_pos q31 hf
        refine za_iconst (v := (0 : Int32)) C (by decide) dL_law_284 ?_
        exact za_sub [0, 1, 2, 3] rfl (j_285 x3 (0 : Int32) (xs (x3 + (1 : Int32)).toNatClampNeg) v27 N28 mr hf)
      · have hf := z_neg q31 hf
        refine za_iconst (v := (1 : Int32)) C (by decide) dL_law_280 ?_
        refine za_goto C 285 (by decide) dL_law_281 ?_
        exact za_sub [0, 1, 2, 3] rfl (j_285 x3 (1 : Int32) (xs (x3 + (1 : Int32)).toNatClampNeg) v27 N28 mr hf)
    refine za_iload_n C 3 rfl rfl dL_law_18 ?_
    refine za_aload_n C 0 rfl rfl dL_law_19 ?_
    refine za_slen C hX hbl hbA dL_law_20 ?_
    refine za_bipush (v := (7 : Int32)) C (by decide) dL_law_21 ?_
    refine za_isub C dL_law_23 ?_
    refine za_icmp_gt C 1155 (by decide) dL_law_24 (fun q32 => ?_) (fun q32 => ?_)
    · have hf := z_pos q32 hf
      exact za_sub [0, 1, 2, 3] rfl (hE _ (z_inj hf))
    · have hf := z_neg q32 hf
      refine za_aload_n C 0 rfl rfl dL_law_27 ?_
      refine za_iload_n C 3 rfl rfl dL_law_28 ?_
      obtain ⟨h33, hf⟩ := z_chk hf
      refine za_sld C hX hbl hbA h33 dL_law_29 ?_
      refine za_bipush (v := (31 : Int32)) C (by decide) dL_law_30 ?_
      refine za_iand C dL_law_32 ?_
      obtain ⟨v34, ev34, hf⟩ := z_lt hf
      refine za_topi (y := v34) ev34 ?_
      by_cases q35 : v34 = (0 : Int32)
      · have hf := z_pos q35 hf
        refine za_tsIn C 168 (0) q35 (by decide) (by decide) rfl (by decide) dL_law_33 ?_
        refine za_aload_n C 1 rfl rfl dL_law_168 ?_
        refine za_aload_n C 0 rfl rfl dL_law_169 ?_
        refine za_iload_n C 3 rfl rfl dL_law_170 ?_
        refine za_iconst (v := (1 : Int32)) C (by decide) dL_law_171 ?_
        refine za_iadd C dL_law_172 ?_
        obtain ⟨h36, hf⟩ := z_chk hf
        refine za_sld C hX hbl hbA h36 dL_law_173 ?_
        refine za_aload_n C 0 rfl rfl dL_law_174 ?_
        refine za_iload_n C 3 rfl rfl dL_law_175 ?_
        refine za_iconst (v := (2 : Int32)) C (by decide) dL_law_176 ?_
        refine za_iadd C dL_law_177 ?_
        obtain ⟨h37, hf⟩ := z_chk hf
        refine za_sld C hX hbl hbA h37 dL_law_178 ?_
        refine za_aload_n C 0 rfl rfl dL_law_179 ?_
        refine za_iload_n C 3 rfl rfl dL_law_180 ?_
        refine za_iconst (v := (3 : Int32)) C (by decide) dL_law_181 ?_
        refine za_iadd C dL_law_182 ?_
        obtain ⟨h38, hf⟩ := z_chk hf
        refine za_sld C hX hbl hbA h38 dL_law_183 ?_
        obtain ⟨v40, N41, hc39, hf⟩ := z_b2 hf
        refine za_callCL (n := 3) (rest := []) C (cX5_node_ok l D ck adC (xs (x3 + (1 : Int32)).toNatClampNeg) (xs (x3 + (2 : Int32)).toNatClampNeg) (xs (x3 + (3 : Int32)).toNatClampNeg) mc _ _ hc39) gL_law_X5_node rfl rfl rfl (by decide +kernel) ⟨Nat.le_trans (Nat.le_of_ble_eq_true rfl) hR1, Nat.le_trans (Nat.le_of_ble_eq_true rfl) hR2⟩ rfl rfl (Nat.le_of_ble_eq_true rfl) hcs dL_law_184 ?_
        refine za_aload_n C 2 rfl rfl dL_law_187 ?_
        refine za_aload_n C 0 rfl rfl dL_law_188 ?_
        refine za_iload_n C 3 rfl rfl dL_law_189 ?_
        refine za_iconst (v := (1 : Int32)) C (by decide) dL_law_190 ?_
        refine za_iadd C dL_law_191 ?_
        obtain ⟨h42, hf⟩ := z_chk hf
        refine za_sld C hX hbl hbA h42 dL_law_192 ?_
        refine za_aload_n C 0 rfl rfl dL_law_193 ?_
        refine za_iload_n C 3 rfl rfl dL_law_194 ?_
        refine za_iconst (v := (2 : Int32)) C (by decide) dL_law_195 ?_
        refine za_iadd C dL_law_196 ?_
        obtain ⟨h43, hf⟩ := z_chk hf
        refine za_sld C hX hbl hbA h43 dL_law_197 ?_
        refine za_aload_n C 0 rfl rfl dL_law_198 ?_
        refine za_iload_n C 3 rfl rfl dL_law_199 ?_
        refine za_iconst (v := (3 : Int32)) C (by decide) dL_law_200 ?_
        refine za_iadd C dL_law_201 ?_
        obtain ⟨h44, hf⟩ := z_chk hf
        refine za_sld C hX hbl hbA h44 dL_law_202 ?_
        obtain ⟨v46, N47, hc45, hf⟩ := z_b2 hf
        refine za_callRL (n := 3) (rest := [.int v40]) C (cX6_node_ok l D ck adR (xs (x3 + (1 : Int32)).toNatClampNeg) (xs (x3 + (2 : Int32)).toNatClampNeg) (xs (x3 + (3 : Int32)).toNatClampNeg) mr _ _ hc45) gL_law_X6_node rfl rfl rfl (by decide +kernel) ⟨Nat.le_trans (Nat.le_of_ble_eq_true rfl) hR1, Nat.le_trans (Nat.le_of_ble_eq_true rfl) hR2⟩ rfl rfl (Nat.le_of_ble_eq_true rfl) hcs dL_law_203 ?_
        refine za_icmp_eq C 1149 (by decide) dL_law_206 (fun q48 => ?_) (fun q48 => ?_)
        · have hf := z_pos q48 hf
          exact za_sub [0, 1, 2, 3] rfl (j_1149 x3 N41 N47 hf)
        · have hf := z_neg q48 hf
          refine za_iconst (v := (0 : Int32)) C (by decide) dL_law_209 ?_
          exact absurd (show (0 : Int32) = 1 from hE _ (z_inj hf)) (by decide)
      have hf := z_neg q35 hf
      by_cases q49 : v34 = (1 : Int32)
      · have hf := z_pos q49 hf
        refine za_tsIn C 211 (1) q49 (by decide) (by decide) rfl (by decide) dL_law_33 ?_
        refine za_aload_n C 1 rfl rfl dL_law_211 ?_
        refine za_aload_n C 0 rfl rfl dL_law_212 ?_
        refine za_iload_n C 3 rfl rfl dL_law_213 ?_
        refine za_iconst (v := (1 : Int32)) C (by decide) dL_law_214 ?_
        refine za_iadd C dL_law_215 ?_
        obtain ⟨h50, hf⟩ := z_chk hf
        refine za_sld C hX hbl hbA h50 dL_law_216 ?_
        refine za_aload_n C 0 rfl rfl dL_law_217 ?_
        refine za_iload_n C 3 rfl rfl dL_law_218 ?_
        refine za_iconst (v := (2 : Int32)) C (by decide) dL_law_219 ?_
        refine za_iadd C dL_law_220 ?_
        obtain ⟨h51, hf⟩ := z_chk hf
        refine za_sld C hX hbl hbA h51 dL_law_221 ?_
        obtain ⟨v53, N54, hc52, hf⟩ := z_b2 hf
        refine za_callCL (n := 2) (rest := []) C (cX5_feed_ok l D ck adC (xs (x3 + (1 : Int32)).toNatClampNeg) (xs (x3 + (2 : Int32)).toNatClampNeg) mc _ _ hc52) gL_law_X5_feed rfl rfl rfl (by decide +kernel) ⟨Nat.le_trans (Nat.le_of_ble_eq_true rfl) hR1, Nat.le_trans (Nat.le_of_ble_eq_true rfl) hR2⟩ rfl rfl (Nat.le_of_ble_eq_true rfl) hcs dL_law_222 ?_
        refine za_aload_n C 2 rfl rfl dL_law_225 ?_
        refine za_aload_n C 0 rfl rfl dL_law_226 ?_
        refine za_iload_n C 3 rfl rfl dL_law_227 ?_
        refine za_iconst (v := (1 : Int32)) C (by decide) dL_law_228 ?_
        refine za_iadd C dL_law_229 ?_
        obtain ⟨h55, hf⟩ := z_chk hf
        refine za_sld C hX hbl hbA h55 dL_law_230 ?_
        refine za_aload_n C 0 rfl rfl dL_law_231 ?_
        refine za_iload_n C 3 rfl rfl dL_law_232 ?_
        refine za_iconst (v := (2 : Int32)) C (by decide) dL_law_233 ?_
        refine za_iadd C dL_law_234 ?_
        obtain ⟨h56, hf⟩ := z_chk hf
        refine za_sld C hX hbl hbA h56 dL_law_235 ?_
        obtain ⟨v58, N59, hc57, hf⟩ := z_b2 hf
        refine za_callRL (n := 2) (rest := [.int v53]) C (cX6_feed_ok l D ck adR (xs (x3 + (1 : Int32)).toNatClampNeg) (xs (x3 + (2 : Int32)).toNatClampNeg) mr _ _ hc57) gL_law_X6_feed rfl rfl rfl (by decide +kernel) ⟨Nat.le_trans (Nat.le_of_ble_eq_true rfl) hR1, Nat.le_trans (Nat.le_of_ble_eq_true rfl) hR2⟩ rfl rfl (Nat.le_of_ble_eq_true rfl) hcs dL_law_236 ?_
        refine za_icmp_eq C 1149 (by decide) dL_law_239 (fun q60 => ?_) (fun q60 => ?_)
        · have hf := z_pos q60 hf
          exact za_sub [0, 1, 2, 3] rfl (j_1149 x3 N54 N59 hf)
        · have hf := z_neg q60 hf
          refine za_iconst (v := (0 : Int32)) C (by decide) dL_law_242 ?_
          exact absurd (show (0 : Int32) = 1 from hE _ (z_inj hf)) (by decide)
      have hf := z_neg q49 hf
      by_cases q61 : v34 = (2 : Int32)
      · have hf := z_pos q61 hf
        refine za_tsIn C 244 (2) q61 (by decide) (by decide) rfl (by decide) dL_law_33 ?_
        refine za_aload_n C 1 rfl rfl dL_law_244 ?_
        refine za_aload_n C 0 rfl rfl dL_law_245 ?_
        refine za_iload_n C 3 rfl rfl dL_law_246 ?_
        refine za_iconst (v := (1 : Int32)) C (by decide) dL_law_247 ?_
        refine za_iadd C dL_law_248 ?_
        obtain ⟨h62, hf⟩ := z_chk hf
        refine za_sld C hX hbl hbA h62 dL_law_249 ?_
        refine za_aload_n C 0 rfl rfl dL_law_250 ?_
        refine za_iload_n C 3 rfl rfl dL_law_251 ?_
        refine za_iconst (v := (2 : Int32)) C (by decide) dL_law_252 ?_
        refine za_iadd C dL_law_253 ?_
        obtain ⟨h63, hf⟩ := z_chk hf
        refine za_sld C hX hbl hbA h63 dL_law_254 ?_
        refine za_if_eq C 262 (by decide) dL_law_255 (fun q64 => ?_) (fun q64 => ?_)
        · have hf := z_pos q64 hf
          refine za_iconst (v := (0 : Int32)) C (by decide) dL_law_262 ?_
          exact za_sub [0, 1, 2, 3] rfl (j_263 x3 (0 : Int32) (xs (x3 + (1 : Int32)).toNatClampNeg) mc mr hf)
        · have hf := z_neg q64 hf
          refine za_iconst (v := (1 : Int32)) C (by decide) dL_law_258 ?_
          refine za_goto C 263 (by decide) dL_law_259 ?_
          exact za_sub [0, 1, 2, 3] rfl (j_263 x3 (1 : Int32) (xs (x3 + (1 : Int32)).toNatClampNeg) mc mr hf)
      have hf := z_neg q61 hf
      by_cases q65 : v34 = (3 : Int32)
      · have hf := z_pos q65 hf
        refine za_tsIn C 293 (3) q65 (by decide) (by decide) rfl (by decide) dL_law_33 ?_
        refine za_aload_n C 1 rfl rfl dL_law_293 ?_
        refine za_aload_n C 0 rfl rfl dL_law_294 ?_
        refine za_iload_n C 3 rfl rfl dL_law_295 ?_
        refine za_iconst (v := (1 : Int32)) C (by decide) dL_law_296 ?_
        refine za_iadd C dL_law_297 ?_
        obtain ⟨h66, hf⟩ := z_chk hf
        refine za_sld C hX hbl hbA h66 dL_law_298 ?_
        refine za_aload_n C 0 rfl rfl dL_law_299 ?_
        refine za_iload_n C 3 rfl rfl dL_law_300 ?_
        refine za_iconst (v := (2 : Int32)) C (by decide) dL_law_301 ?_
        refine za_iadd C dL_law_302 ?_
        obtain ⟨h67, hf⟩ := z_chk hf
        refine za_sld C hX hbl hbA h67 dL_law_303 ?_
        obtain ⟨v69, N70, hc68, hf⟩ := z_b2 hf
        refine za_callCL (n := 2) (rest := []) C (cX5_price_ok l D ck adC (xs (x3 + (1 : Int32)).toNatClampNeg) (xs (x3 + (2 : Int32)).toNatClampNeg) mc _ _ hc68) gL_law_X5_price rfl rfl rfl (by decide +kernel) ⟨Nat.le_trans (Nat.le_of_ble_eq_true rfl) hR1, Nat.le_trans (Nat.le_of_ble_eq_true rfl) hR2⟩ rfl rfl (Nat.le_of_ble_eq_true rfl) hcs dL_law_304 ?_
        refine za_aload_n C 2 rfl rfl dL_law_307 ?_
        refine za_aload_n C 0 rfl rfl dL_law_308 ?_
        refine za_iload_n C 3 rfl rfl dL_law_309 ?_
        refine za_iconst (v := (1 : Int32)) C (by decide) dL_law_310 ?_
        refine za_iadd C dL_law_311 ?_
        obtain ⟨h71, hf⟩ := z_chk hf
        refine za_sld C hX hbl hbA h71 dL_law_312 ?_
        refine za_aload_n C 0 rfl rfl dL_law_313 ?_
        refine za_iload_n C 3 rfl rfl dL_law_314 ?_
        refine za_iconst (v := (2 : Int32)) C (by decide) dL_law_315 ?_
        refine za_iadd C dL_law_316 ?_
        obtain ⟨h72, hf⟩ := z_chk hf
        refine za_sld C hX hbl hbA h72 dL_law_317 ?_
        obtain ⟨v74, N75, hc73, hf⟩ := z_b2 hf
        refine za_callRL (n := 2) (rest := [.int v69]) C (cX6_price_ok l D ck adR (xs (x3 + (1 : Int32)).toNatClampNeg) (xs (x3 + (2 : Int32)).toNatClampNeg) mr _ _ hc73) gL_law_X6_price rfl rfl rfl (by decide +kernel) ⟨Nat.le_trans (Nat.le_of_ble_eq_true rfl) hR1, Nat.le_trans (Nat.le_of_ble_eq_true rfl) hR2⟩ rfl rfl (Nat.le_of_ble_eq_true rfl) hcs dL_law_318 ?_
        refine za_icmp_eq C 1149 (by decide) dL_law_321 (fun q76 => ?_) (fun q76 => ?_)
        · have hf := z_pos q76 hf
          exact za_sub [0, 1, 2, 3] rfl (j_1149 x3 N70 N75 hf)
        · have hf := z_neg q76 hf
          refine za_iconst (v := (0 : Int32)) C (by decide) dL_law_324 ?_
          exact absurd (show (0 : Int32) = 1 from hE _ (z_inj hf)) (by decide)
      have hf := z_neg q65 hf
      by_cases q77 : v34 = (4 : Int32)
      · have hf := z_pos q77 hf
        refine za_tsIn C 326 (4) q77 (by decide) (by decide) rfl (by decide) dL_law_33 ?_
        refine za_aload_n C 1 rfl rfl dL_law_326 ?_
        refine za_aload_n C 0 rfl rfl dL_law_327 ?_
        refine za_iload_n C 3 rfl rfl dL_law_328 ?_
        refine za_iconst (v := (1 : Int32)) C (by decide) dL_law_329 ?_
        refine za_iadd C dL_law_330 ?_
        obtain ⟨h78, hf⟩ := z_chk hf
        refine za_sld C hX hbl hbA h78 dL_law_331 ?_
        refine za_aload_n C 0 rfl rfl dL_law_332 ?_
        refine za_iload_n C 3 rfl rfl dL_law_333 ?_
        refine za_iconst (v := (2 : Int32)) C (by decide) dL_law_334 ?_
        refine za_iadd C dL_law_335 ?_
        obtain ⟨h79, hf⟩ := z_chk hf
        refine za_sld C hX hbl hbA h79 dL_law_336 ?_
        obtain ⟨v81, hc80, hf⟩ := z_bind hf
        refine za_callCL (n := 2) (rest := []) C (cX5_about_ok l D ck adC (xs (x3 + (1 : Int32)).toNatClampNeg) (xs (x3 + (2 : Int32)).toNatClampNeg) mc _ hc80) gL_law_X5_about rfl rfl rfl (by decide +kernel) ⟨Nat.le_trans (Nat.le_of_ble_eq_true rfl) hR1, Nat.le_trans (Nat.le_of_ble_eq_true rfl) hR2⟩ rfl rfl (Nat.le_of_ble_eq_true rfl) hcs dL_law_337 ?_
        refine za_aload_n C 2 rfl rfl dL_law_340 ?_
        refine za_aload_n C 0 rfl rfl dL_law_341 ?_
        refine za_iload_n C 3 rfl rfl dL_law_342 ?_
        refine za_iconst (v := (1 : Int32)) C (by decide) dL_law_343 ?_
        refine za_iadd C dL_law_344 ?_
        obtain ⟨h82, hf⟩ := z_chk hf
        refine za_sld C hX hbl hbA h82 dL_law_345 ?_
        refine za_aload_n C 0 rfl rfl dL_law_346 ?_
        refine za_iload_n C 3 rfl rfl dL_law_347 ?_
        refine za_iconst (v := (2 : Int32)) C (by decide) dL_law_348 ?_
        refine za_iadd C dL_law_349 ?_
        obtain ⟨h83, hf⟩ := z_chk hf
        refine za_sld C hX hbl hbA h83 dL_law_350 ?_
        obtain ⟨v85, hc84, hf⟩ := z_bind hf
        refine za_callRL (n := 2) (rest := [.int v81]) C (cX6_about_ok l D ck adR (xs (x3 + (1 : Int32)).toNatClampNeg) (xs (x3 + (2 : Int32)).toNatClampNeg) mr _ hc84) gL_law_X6_about rfl rfl rfl (by decide +kernel) ⟨Nat.le_trans (Nat.le_of_ble_eq_true rfl) hR1, Nat.le_trans (Nat.le_of_ble_eq_true rfl) hR2⟩ rfl rfl (Nat.le_of_ble_eq_true rfl) hcs dL_law_351 ?_
        refine za_icmp_eq C 1149 (by decide) dL_law_354 (fun q86 => ?_) (fun q86 => ?_)
        · have hf := z_pos q86 hf
          exact za_sub [0, 1, 2, 3] rfl (j_1149 x3 mc mr hf)
        · have hf := z_neg q86 hf
          refine za_iconst (v := (0 : Int32)) C (by decide) dL_law_357 ?_
          exact absurd (show (0 : Int32) = 1 from hE _ (z_inj hf)) (by decide)
      have hf := z_neg q77 hf
      by_cases q87 : v34 = (5 : Int32)
      · have hf := z_pos q87 hf
        refine za_tsIn C 359 (5) q87 (by decide) (by decide) rfl (by decide) dL_law_33 ?_
        refine za_aload_n C 1 rfl rfl dL_law_359 ?_
        refine za_aload_n C 0 rfl rfl dL_law_360 ?_
        refine za_iload_n C 3 rfl rfl dL_law_361 ?_
        refine za_iconst (v := (1 : Int32)) C (by decide) dL_law_362 ?_
        refine za_iadd C dL_law_363 ?_
        obtain ⟨h88, hf⟩ := z_chk hf
        refine za_sld C hX hbl hbA h88 dL_law_364 ?_
        refine za_aload_n C 0 rfl rfl dL_law_365 ?_
        refine za_iload_n C 3 rfl rfl dL_law_366 ?_
        refine za_iconst (v := (2 : Int32)) C (by decide) dL_law_367 ?_
        refine za_iadd C dL_law_368 ?_
        obtain ⟨h89, hf⟩ := z_chk hf
        refine za_sld C hX hbl hbA h89 dL_law_369 ?_
        refine za_if_eq C 377 (by decide) dL_law_370 (fun q90 => ?_) (fun q90 => ?_)
        · have hf := z_pos q90 hf
          refine za_iconst (v := (0 : Int32)) C (by decide) dL_law_377 ?_
          exact za_sub [0, 1, 2, 3] rfl (j_378 x3 (0 : Int32) (xs (x3 + (1 : Int32)).toNatClampNeg) mc mr hf)
        · have hf := z_neg q90 hf
          refine za_iconst (v := (1 : Int32)) C (by decide) dL_law_373 ?_
          refine za_goto C 378 (by decide) dL_law_374 ?_
          exact za_sub [0, 1, 2, 3] rfl (j_378 x3 (1 : Int32) (xs (x3 + (1 : Int32)).toNatClampNeg) mc mr hf)
      have hf := z_neg q87 hf
      by_cases q91 : v34 = (6 : Int32)
      · have hf := z_pos q91 hf
        refine za_tsIn C 408 (6) q91 (by decide) (by decide) rfl (by decide) dL_law_33 ?_
        refine za_aload_n C 1 rfl rfl dL_law_408 ?_
        refine za_aload_n C 0 rfl rfl dL_law_409 ?_
        refine za_iload_n C 3 rfl rfl dL_law_410 ?_
        refine za_iconst (v := (1 : Int32)) C (by decide) dL_law_411 ?_
        refine za_iadd C dL_law_412 ?_
        obtain ⟨h92, hf⟩ := z_chk hf
        refine za_sld C hX hbl hbA h92 dL_law_413 ?_
        refine za_aload_n C 0 rfl rfl dL_law_414 ?_
        refine za_iload_n C 3 rfl rfl dL_law_415 ?_
        refine za_iconst (v := (2 : Int32)) C (by decide) dL_law_416 ?_
        refine za_iadd C dL_law_417 ?_
        obtain ⟨h93, hf⟩ := z_chk hf
        refine za_sld C hX hbl hbA h93 dL_law_418 ?_
        refine za_if_eq C 426 (by decide) dL_law_419 (fun q94 => ?_) (fun q94 => ?_)
        · have hf := z_pos q94 hf
          refine za_iconst (v := (0 : Int32)) C (by decide) dL_law_426 ?_
          exact za_sub [0, 1, 2, 3] rfl (j_427 x3 (0 : Int32) (xs (x3 + (1 : Int32)).toNatClampNeg) mc mr hf)
        · have hf := z_neg q94 hf
          refine za_iconst (v := (1 : Int32)) C (by decide) dL_law_422 ?_
          refine za_goto C 427 (by decide) dL_law_423 ?_
          exact za_sub [0, 1, 2, 3] rfl (j_427 x3 (1 : Int32) (xs (x3 + (1 : Int32)).toNatClampNeg) mc mr hf)
      have hf := z_neg q91 hf
      by_cases q95 : v34 = (7 : Int32)
      · have hf := z_pos q95 hf
        refine za_tsIn C 457 (7) q95 (by decide) (by decide) rfl (by decide) dL_law_33 ?_
        refine za_aload_n C 1 rfl rfl dL_law_457 ?_
        refine za_aload_n C 0 rfl rfl dL_law_458 ?_
        refine za_iload_n C 3 rfl rfl dL_law_459 ?_
        refine za_iconst (v := (1 : Int32)) C (by decide) dL_law_460 ?_
        refine za_iadd C dL_law_461 ?_
        obtain ⟨h96, hf⟩ := z_chk hf
        refine za_sld C hX hbl hbA h96 dL_law_462 ?_
        obtain ⟨v98, N99, hc97, hf⟩ := z_b2 hf
        refine za_callCL (n := 1) (rest := []) C (cX5_ticks_ok l D ck adC (xs (x3 + (1 : Int32)).toNatClampNeg) mc _ _ hc97) gL_law_X5_ticks rfl rfl rfl (by decide +kernel) ⟨Nat.le_trans (Nat.le_of_ble_eq_true rfl) hR1, Nat.le_trans (Nat.le_of_ble_eq_true rfl) hR2⟩ rfl rfl (Nat.le_of_ble_eq_true rfl) hcs dL_law_463 ?_
        refine za_aload_n C 2 rfl rfl dL_law_466 ?_
        refine za_aload_n C 0 rfl rfl dL_law_467 ?_
        refine za_iload_n C 3 rfl rfl dL_law_468 ?_
        refine za_iconst (v := (1 : Int32)) C (by decide) dL_law_469 ?_
        refine za_iadd C dL_law_470 ?_
        obtain ⟨h100, hf⟩ := z_chk hf
        refine za_sld C hX hbl hbA h100 dL_law_471 ?_
        obtain ⟨v102, N103, hc101, hf⟩ := z_b2 hf
        refine za_callRL (n := 1) (rest := [.int v98]) C (cX6_ticks_ok l D ck adR (xs (x3 + (1 : Int32)).toNatClampNeg) mr _ _ hc101) gL_law_X6_ticks rfl rfl rfl (by decide +kernel) ⟨Nat.le_trans (Nat.le_of_ble_eq_true rfl) hR1, Nat.le_trans (Nat.le_of_ble_eq_true rfl) hR2⟩ rfl rfl (Nat.le_of_ble_eq_true rfl) hcs dL_law_472 ?_
        refine za_icmp_eq C 1149 (by decide) dL_law_475 (fun q104 => ?_) (fun q104 => ?_)
        · have hf := z_pos q104 hf
          exact za_sub [0, 1, 2, 3] rfl (j_1149 x3 N99 N103 hf)
        · have hf := z_neg q104 hf
          refine za_iconst (v := (0 : Int32)) C (by decide) dL_law_478 ?_
          exact absurd (show (0 : Int32) = 1 from hE _ (z_inj hf)) (by decide)
      have hf := z_neg q95 hf
      by_cases q105 : v34 = (8 : Int32)
      · have hf := z_pos q105 hf
        refine za_tsIn C 480 (8) q105 (by decide) (by decide) rfl (by decide) dL_law_33 ?_
        refine za_aload_n C 1 rfl rfl dL_law_480 ?_
        refine za_aload_n C 0 rfl rfl dL_law_481 ?_
        refine za_iload_n C 3 rfl rfl dL_law_482 ?_
        refine za_iconst (v := (1 : Int32)) C (by decide) dL_law_483 ?_
        refine za_iadd C dL_law_484 ?_
        obtain ⟨h106, hf⟩ := z_chk hf
        refine za_sld C hX hbl hbA h106 dL_law_485 ?_
        refine za_aload_n C 0 rfl rfl dL_law_486 ?_
        refine za_iload_n C 3 rfl rfl dL_law_487 ?_
        refine za_iconst (v := (2 : Int32)) C (by decide) dL_law_488 ?_
        refine za_iadd C dL_law_489 ?_
        obtain ⟨h107, hf⟩ := z_chk hf
        refine za_sld C hX hbl hbA h107 dL_law_490 ?_
        obtain ⟨v109, N110, hc108, hf⟩ := z_b2 hf
        refine za_callCL (n := 2) (rest := []) C (cX5_plain_ok l D ck adC n (xs (x3 + (1 : Int32)).toNatClampNeg) (xs (x3 + (2 : Int32)).toNatClampNeg) mc _ _ hc108) gL_law_X5_plain rfl rfl rfl (by decide +kernel) ⟨Nat.le_trans (Nat.le_of_ble_eq_true rfl) hR1, Nat.le_trans (Nat.le_of_ble_eq_true rfl) hR2⟩ rfl rfl (Nat.le_of_ble_eq_true rfl) hcs dL_law_491 ?_
        refine za_aload_n C 2 rfl rfl dL_law_494 ?_
        refine za_aload_n C 0 rfl rfl dL_law_495 ?_
        refine za_iload_n C 3 rfl rfl dL_law_496 ?_
        refine za_iconst (v := (1 : Int32)) C (by decide) dL_law_497 ?_
        refine za_iadd C dL_law_498 ?_
        obtain ⟨h111, hf⟩ := z_chk hf
        refine za_sld C hX hbl hbA h111 dL_law_499 ?_
        refine za_aload_n C 0 rfl rfl dL_law_500 ?_
        refine za_iload_n C 3 rfl rfl dL_law_501 ?_
        refine za_iconst (v := (2 : Int32)) C (by decide) dL_law_502 ?_
        refine za_iadd C dL_law_503 ?_
        obtain ⟨h112, hf⟩ := z_chk hf
        refine za_sld C hX hbl hbA h112 dL_law_504 ?_
        obtain ⟨v114, N115, hc113, hf⟩ := z_b2 hf
        refine za_callRL (n := 2) (rest := [.int v109]) C (cX6_plain_ok l D ck adR n (xs (x3 + (1 : Int32)).toNatClampNeg) (xs (x3 + (2 : Int32)).toNatClampNeg) mr _ _ hc113) gL_law_X6_plain rfl rfl rfl (by decide +kernel) ⟨Nat.le_trans (Nat.le_of_ble_eq_true rfl) hR1, Nat.le_trans (Nat.le_of_ble_eq_true rfl) hR2⟩ rfl rfl (Nat.le_of_ble_eq_true rfl) hcs dL_law_505 ?_
        refine za_icmp_eq C 1149 (by decide) dL_law_508 (fun q116 => ?_) (fun q116 => ?_)
        · have hf := z_pos q116 hf
          exact za_sub [0, 1, 2, 3] rfl (j_1149 x3 N110 N115 hf)
        · have hf := z_neg q116 hf
          refine za_iconst (v := (0 : Int32)) C (by decide) dL_law_511 ?_
          exact absurd (show (0 : Int32) = 1 from hE _ (z_inj hf)) (by decide)
      have hf := z_neg q105 hf
      by_cases q117 : v34 = (9 : Int32)
      · have hf := z_pos q117 hf
        refine za_tsIn C 513 (9) q117 (by decide) (by decide) rfl (by decide) dL_law_33 ?_
        refine za_aload_n C 1 rfl rfl dL_law_513 ?_
        refine za_aload_n C 0 rfl rfl dL_law_514 ?_
        refine za_iload_n C 3 rfl rfl dL_law_515 ?_
        refine za_iconst (v := (1 : Int32)) C (by decide) dL_law_516 ?_
        refine za_iadd C dL_law_517 ?_
        obtain ⟨h118, hf⟩ := z_chk hf
        refine za_sld C hX hbl hbA h118 dL_law_518 ?_
        refine za_aload_n C 0 rfl rfl dL_law_519 ?_
        refine za_iload_n C 3 rfl rfl dL_law_520 ?_
        refine za_iconst (v := (2 : Int32)) C (by decide) dL_law_521 ?_
        refine za_iadd C dL_law_522 ?_
        obtain ⟨h119, hf⟩ := z_chk hf
        refine za_sld C hX hbl hbA h119 dL_law_523 ?_
        refine za_aload_n C 0 rfl rfl dL_law_524 ?_
        refine za_iload_n C 3 rfl rfl dL_law_525 ?_
        refine za_iconst (v := (3 : Int32)) C (by decide) dL_law_526 ?_
        refine za_iadd C dL_law_527 ?_
        obtain ⟨h120, hf⟩ := z_chk hf
        refine za_sld C hX hbl hbA h120 dL_law_528 ?_
        obtain ⟨v122, N123, hc121, hf⟩ := z_b2 hf
        refine za_callCL (n := 3) (rest := []) C (cX5_copy_ok l D ck adC n (xs (x3 + (1 : Int32)).toNatClampNeg) (xs (x3 + (2 : Int32)).toNatClampNeg) (xs (x3 + (3 : Int32)).toNatClampNeg) mc _ _ hc121) gL_law_X5_copy rfl rfl rfl (by decide +kernel) ⟨Nat.le_trans (Nat.le_of_ble_eq_true rfl) hR1, Nat.le_trans (Nat.le_of_ble_eq_true rfl) hR2⟩ rfl rfl (Nat.le_of_ble_eq_true rfl) hcs dL_law_529 ?_
        refine za_aload_n C 2 rfl rfl dL_law_532 ?_
        refine za_aload_n C 0 rfl rfl dL_law_533 ?_
        refine za_iload_n C 3 rfl rfl dL_law_534 ?_
        refine za_iconst (v := (1 : Int32)) C (by decide) dL_law_535 ?_
        refine za_iadd C dL_law_536 ?_
        obtain ⟨h124, hf⟩ := z_chk hf
        refine za_sld C hX hbl hbA h124 dL_law_537 ?_
        refine za_aload_n C 0 rfl rfl dL_law_538 ?_
        refine za_iload_n C 3 rfl rfl dL_law_539 ?_
        refine za_iconst (v := (2 : Int32)) C (by decide) dL_law_540 ?_
        refine za_iadd C dL_law_541 ?_
        obtain ⟨h125, hf⟩ := z_chk hf
        refine za_sld C hX hbl hbA h125 dL_law_542 ?_
        refine za_aload_n C 0 rfl rfl dL_law_543 ?_
        refine za_iload_n C 3 rfl rfl dL_law_544 ?_
        refine za_iconst (v := (3 : Int32)) C (by decide) dL_law_545 ?_
        refine za_iadd C dL_law_546 ?_
        obtain ⟨h126, hf⟩ := z_chk hf
        refine za_sld C hX hbl hbA h126 dL_law_547 ?_
        obtain ⟨v128, N129, hc127, hf⟩ := z_b2 hf
        refine za_callRL (n := 3) (rest := [.int v122]) C (cX6_copy_ok l D ck adR n (xs (x3 + (1 : Int32)).toNatClampNeg) (xs (x3 + (2 : Int32)).toNatClampNeg) (xs (x3 + (3 : Int32)).toNatClampNeg) mr _ _ hc127) gL_law_X6_copy rfl rfl rfl (by decide +kernel) ⟨Nat.le_trans (Nat.le_of_ble_eq_true rfl) hR1, Nat.le_trans (Nat.le_of_ble_eq_true rfl) hR2⟩ rfl rfl (Nat.le_of_ble_eq_true rfl) hcs dL_law_548 ?_
        refine za_icmp_eq C 1149 (by decide) dL_law_551 (fun q130 => ?_) (fun q130 => ?_)
        · have hf := z_pos q130 hf
          exact za_sub [0, 1, 2, 3] rfl (j_1149 x3 N123 N129 hf)
        · have hf := z_neg q130 hf
          refine za_iconst (v := (0 : Int32)) C (by decide) dL_law_554 ?_
          exact absurd (show (0 : Int32) = 1 from hE _ (z_inj hf)) (by decide)
      have hf := z_neg q117 hf
      by_cases q131 : v34 = (10 : Int32)
      · have hf := z_pos q131 hf
        refine za_tsIn C 556 (10) q131 (by decide) (by decide) rfl (by decide) dL_law_33 ?_
        refine za_aload_n C 1 rfl rfl dL_law_556 ?_
        refine za_aload_n C 0 rfl rfl dL_law_557 ?_
        refine za_iload_n C 3 rfl rfl dL_law_558 ?_
        refine za_iconst (v := (1 : Int32)) C (by decide) dL_law_559 ?_
        refine za_iadd C dL_law_560 ?_
        obtain ⟨h132, hf⟩ := z_chk hf
        refine za_sld C hX hbl hbA h132 dL_law_561 ?_
        refine za_aload_n C 0 rfl rfl dL_law_562 ?_
        refine za_iload_n C 3 rfl rfl dL_law_563 ?_
        refine za_iconst (v := (2 : Int32)) C (by decide) dL_law_564 ?_
        refine za_iadd C dL_law_565 ?_
        obtain ⟨h133, hf⟩ := z_chk hf
        refine za_sld C hX hbl hbA h133 dL_law_566 ?_
        refine za_aload_n C 0 rfl rfl dL_law_567 ?_
        refine za_iload_n C 3 rfl rfl dL_law_568 ?_
        refine za_iconst (v := (3 : Int32)) C (by decide) dL_law_569 ?_
        refine za_iadd C dL_law_570 ?_
        obtain ⟨h134, hf⟩ := z_chk hf
        refine za_sld C hX hbl hbA h134 dL_law_571 ?_
        obtain ⟨v136, N137, hc135, hf⟩ := z_b2 hf
        refine za_callCL (n := 3) (rest := []) C (cX5_flip_ok l D ck adC n (xs (x3 + (1 : Int32)).toNatClampNeg) (xs (x3 + (2 : Int32)).toNatClampNeg) (xs (x3 + (3 : Int32)).toNatClampNeg) mc _ _ hc135) gL_law_X5_flip rfl rfl rfl (by decide +kernel) ⟨Nat.le_trans (Nat.le_of_ble_eq_true rfl) hR1, Nat.le_trans (Nat.le_of_ble_eq_true rfl) hR2⟩ rfl rfl (Nat.le_of_ble_eq_true rfl) hcs dL_law_572 ?_
        refine za_aload_n C 2 rfl rfl dL_law_575 ?_
        refine za_aload_n C 0 rfl rfl dL_law_576 ?_
        refine za_iload_n C 3 rfl rfl dL_law_577 ?_
        refine za_iconst (v := (1 : Int32)) C (by decide) dL_law_578 ?_
        refine za_iadd C dL_law_579 ?_
        obtain ⟨h138, hf⟩ := z_chk hf
        refine za_sld C hX hbl hbA h138 dL_law_580 ?_
        refine za_aload_n C 0 rfl rfl dL_law_581 ?_
        refine za_iload_n C 3 rfl rfl dL_law_582 ?_
        refine za_iconst (v := (2 : Int32)) C (by decide) dL_law_583 ?_
        refine za_iadd C dL_law_584 ?_
        obtain ⟨h139, hf⟩ := z_chk hf
        refine za_sld C hX hbl hbA h139 dL_law_585 ?_
        refine za_aload_n C 0 rfl rfl dL_law_586 ?_
        refine za_iload_n C 3 rfl rfl dL_law_587 ?_
        refine za_iconst (v := (3 : Int32)) C (by decide) dL_law_588 ?_
        refine za_iadd C dL_law_589 ?_
        obtain ⟨h140, hf⟩ := z_chk hf
        refine za_sld C hX hbl hbA h140 dL_law_590 ?_
        obtain ⟨v142, N143, hc141, hf⟩ := z_b2 hf
        refine za_callRL (n := 3) (rest := [.int v136]) C (cX6_flip_ok l D ck adR n (xs (x3 + (1 : Int32)).toNatClampNeg) (xs (x3 + (2 : Int32)).toNatClampNeg) (xs (x3 + (3 : Int32)).toNatClampNeg) mr _ _ hc141) gL_law_X6_flip rfl rfl rfl (by decide +kernel) ⟨Nat.le_trans (Nat.le_of_ble_eq_true rfl) hR1, Nat.le_trans (Nat.le_of_ble_eq_true rfl) hR2⟩ rfl rfl (Nat.le_of_ble_eq_true rfl) hcs dL_law_591 ?_
        refine za_icmp_eq C 1149 (by decide) dL_law_594 (fun q144 => ?_) (fun q144 => ?_)
        · have hf := z_pos q144 hf
          exact za_sub [0, 1, 2, 3] rfl (j_1149 x3 N137 N143 hf)
        · have hf := z_neg q144 hf
          refine za_iconst (v := (0 : Int32)) C (by decide) dL_law_597 ?_
          exact absurd (show (0 : Int32) = 1 from hE _ (z_inj hf)) (by decide)
      have hf := z_neg q131 hf
      by_cases q145 : v34 = (11 : Int32)
      · have hf := z_pos q145 hf
        refine za_tsIn C 599 (11) q145 (by decide) (by decide) rfl (by decide) dL_law_33 ?_
        refine za_aload_n C 1 rfl rfl dL_law_599 ?_
        refine za_aload_n C 0 rfl rfl dL_law_600 ?_
        refine za_iload_n C 3 rfl rfl dL_law_601 ?_
        refine za_iconst (v := (1 : Int32)) C (by decide) dL_law_602 ?_
        refine za_iadd C dL_law_603 ?_
        obtain ⟨h146, hf⟩ := z_chk hf
        refine za_sld C hX hbl hbA h146 dL_law_604 ?_
        refine za_aload_n C 0 rfl rfl dL_law_605 ?_
        refine za_iload_n C 3 rfl rfl dL_law_606 ?_
        refine za_iconst (v := (2 : Int32)) C (by decide) dL_law_607 ?_
        refine za_iadd C dL_law_608 ?_
        obtain ⟨h147, hf⟩ := z_chk hf
        refine za_sld C hX hbl hbA h147 dL_law_609 ?_
        refine za_aload_n C 0 rfl rfl dL_law_610 ?_
        refine za_iload_n C 3 rfl rfl dL_law_611 ?_
        refine za_iconst (v := (3 : Int32)) C (by decide) dL_law_612 ?_
        refine za_iadd C dL_law_613 ?_
        obtain ⟨h148, hf⟩ := z_chk hf
        refine za_sld C hX hbl hbA h148 dL_law_614 ?_
        refine za_aload_n C 0 rfl rfl dL_law_615 ?_
        refine za_iload_n C 3 rfl rfl dL_law_616 ?_
        refine za_iconst (v := (4 : Int32)) C (by decide) dL_law_617 ?_
        refine za_iadd C dL_law_618 ?_
        obtain ⟨h149, hf⟩ := z_chk hf
        refine za_sld C hX hbl hbA h149 dL_law_619 ?_
        refine za_aload_n C 0 rfl rfl dL_law_620 ?_
        refine za_iload_n C 3 rfl rfl dL_law_621 ?_
        refine za_iconst (v := (5 : Int32)) C (by decide) dL_law_622 ?_
        refine za_iadd C dL_law_623 ?_
        obtain ⟨h150, hf⟩ := z_chk hf
        refine za_sld C hX hbl hbA h150 dL_law_624 ?_
        refine za_aload_n C 0 rfl rfl dL_law_625 ?_
        refine za_iload_n C 3 rfl rfl dL_law_626 ?_
        refine za_bipush (v := (6 : Int32)) C (by decide) dL_law_627 ?_
        refine za_iadd C dL_law_629 ?_
        obtain ⟨h151, hf⟩ := z_chk hf
        refine za_sld C hX hbl hbA h151 dL_law_630 ?_
        obtain ⟨v153, N154, hc152, hf⟩ := z_b2 hf
        refine za_callCL (n := 6) (rest := []) C (cX5_flips_ok l D ck adC n (xs (x3 + (1 : Int32)).toNatClampNeg) (xs (x3 + (2 : Int32)).toNatClampNeg) (xs (x3 + (3 : Int32)).toNatClampNeg) (xs (x3 + (4 : Int32)).toNatClampNeg) (xs (x3 + (5 : Int32)).toNatClampNeg) (xs (x3 + (6 : Int32)).toNatClampNeg) mc _ _ hc152) gL_law_X5_flips rfl rfl rfl (by decide +kernel) ⟨Nat.le_trans (Nat.le_of_ble_eq_true rfl) hR1, Nat.le_trans (Nat.le_of_ble_eq_true rfl) hR2⟩ rfl rfl (Nat.le_of_ble_eq_true rfl) hcs dL_law_631 ?_
        refine za_aload_n C 2 rfl rfl dL_law_634 ?_
        refine za_aload_n C 0 rfl rfl dL_law_635 ?_
        refine za_iload_n C 3 rfl rfl dL_law_636 ?_
        refine za_iconst (v := (1 : Int32)) C (by decide) dL_law_637 ?_
        refine za_iadd C dL_law_638 ?_
        obtain ⟨h155, hf⟩ := z_chk hf
        refine za_sld C hX hbl hbA h155 dL_law_639 ?_
        refine za_aload_n C 0 rfl rfl dL_law_640 ?_
        refine za_iload_n C 3 rfl rfl dL_law_641 ?_
        refine za_iconst (v := (2 : Int32)) C (by decide) dL_law_642 ?_
        refine za_iadd C dL_law_643 ?_
        obtain ⟨h156, hf⟩ := z_chk hf
        refine za_sld C hX hbl hbA h156 dL_law_644 ?_
        refine za_aload_n C 0 rfl rfl dL_law_645 ?_
        refine za_iload_n C 3 rfl rfl dL_law_646 ?_
        refine za_iconst (v := (3 : Int32)) C (by decide) dL_law_647 ?_
        refine za_iadd C dL_law_648 ?_
        obtain ⟨h157, hf⟩ := z_chk hf
        refine za_sld C hX hbl hbA h157 dL_law_649 ?_
        refine za_aload_n C 0 rfl rfl dL_law_650 ?_
        refine za_iload_n C 3 rfl rfl dL_law_651 ?_
        refine za_iconst (v := (4 : Int32)) C (by decide) dL_law_652 ?_
        refine za_iadd C dL_law_653 ?_
        obtain ⟨h158, hf⟩ := z_chk hf
        refine za_sld C hX hbl hbA h158 dL_law_654 ?_
        refine za_aload_n C 0 rfl rfl dL_law_655 ?_
        refine za_iload_n C 3 rfl rfl dL_law_656 ?_
        refine za_iconst (v := (5 : Int32)) C (by decide) dL_law_657 ?_
        refine za_iadd C dL_law_658 ?_
        obtain ⟨h159, hf⟩ := z_chk hf
        refine za_sld C hX hbl hbA h159 dL_law_659 ?_
        refine za_aload_n C 0 rfl rfl dL_law_660 ?_
        refine za_iload_n C 3 rfl rfl dL_law_661 ?_
        refine za_bipush (v := (6 : Int32)) C (by decide) dL_law_662 ?_
        refine za_iadd C dL_law_664 ?_
        obtain ⟨h160, hf⟩ := z_chk hf
        refine za_sld C hX hbl hbA h160 dL_law_665 ?_
        obtain ⟨v162, N163, hc161, hf⟩ := z_b2 hf
        refine za_callRL (n := 6) (rest := [.int v153]) C (cX6_flips_ok l D ck adR n (xs (x3 + (1 : Int32)).toNatClampNeg) (xs (x3 + (2 : Int32)).toNatClampNeg) (xs (x3 + (3 : Int32)).toNatClampNeg) (xs (x3 + (4 : Int32)).toNatClampNeg) (xs (x3 + (5 : Int32)).toNatClampNeg) (xs (x3 + (6 : Int32)).toNatClampNeg) mr _ _ hc161) gL_law_X6_flips rfl rfl rfl (by decide +kernel) ⟨Nat.le_trans (Nat.le_of_ble_eq_true rfl) hR1, Nat.le_trans (Nat.le_of_ble_eq_true rfl) hR2⟩ rfl rfl (Nat.le_of_ble_eq_true rfl) hcs dL_law_666 ?_
        refine za_icmp_eq C 1149 (by decide) dL_law_669 (fun q164 => ?_) (fun q164 => ?_)
        · have hf := z_pos q164 hf
          exact za_sub [0, 1, 2, 3] rfl (j_1149 x3 N154 N163 hf)
        · have hf := z_neg q164 hf
          refine za_iconst (v := (0 : Int32)) C (by decide) dL_law_672 ?_
          exact absurd (show (0 : Int32) = 1 from hE _ (z_inj hf)) (by decide)
      have hf := z_neg q145 hf
      by_cases q165 : v34 = (12 : Int32)
      · have hf := z_pos q165 hf
        refine za_tsIn C 674 (12) q165 (by decide) (by decide) rfl (by decide) dL_law_33 ?_
        refine za_aload_n C 1 rfl rfl dL_law_674 ?_
        refine za_aload_n C 0 rfl rfl dL_law_675 ?_
        refine za_iload_n C 3 rfl rfl dL_law_676 ?_
        refine za_iconst (v := (1 : Int32)) C (by decide) dL_law_677 ?_
        refine za_iadd C dL_law_678 ?_
        obtain ⟨h166, hf⟩ := z_chk hf
        refine za_sld C hX hbl hbA h166 dL_law_679 ?_
        obtain ⟨v168, N169, hc167, hf⟩ := z_b2 hf
        refine za_callCL (n := 1) (rest := []) C (cX5_many_ok l D ck adC n (xs (x3 + (1 : Int32)).toNatClampNeg) mc _ _ hc167) gL_law_X5_many rfl rfl rfl (by decide +kernel) ⟨Nat.le_trans (Nat.le_of_ble_eq_true rfl) hR1, Nat.le_trans (Nat.le_of_ble_eq_true rfl) hR2⟩ rfl rfl (Nat.le_of_ble_eq_true rfl) hcs dL_law_680 ?_
        refine za_aload_n C 2 rfl rfl dL_law_683 ?_
        refine za_aload_n C 0 rfl rfl dL_law_684 ?_
        refine za_iload_n C 3 rfl rfl dL_law_685 ?_
        refine za_iconst (v := (1 : Int32)) C (by decide) dL_law_686 ?_
        refine za_iadd C dL_law_687 ?_
        obtain ⟨h170, hf⟩ := z_chk hf
        refine za_sld C hX hbl hbA h170 dL_law_688 ?_
        obtain ⟨v172, N173, hc171, hf⟩ := z_b2 hf
        refine za_callRL (n := 1) (rest := [.int v168]) C (cX6_many_ok l D ck adR n (xs (x3 + (1 : Int32)).toNatClampNeg) mr _ _ hc171) gL_law_X6_many rfl rfl rfl (by decide +kernel) ⟨Nat.le_trans (Nat.le_of_ble_eq_true rfl) hR1, Nat.le_trans (Nat.le_of_ble_eq_true rfl) hR2⟩ rfl rfl (Nat.le_of_ble_eq_true rfl) hcs dL_law_689 ?_
        refine za_icmp_eq C 1149 (by decide) dL_law_692 (fun q174 => ?_) (fun q174 => ?_)
        · have hf := z_pos q174 hf
          exact za_sub [0, 1, 2, 3] rfl (j_1149 x3 N169 N173 hf)
        · have hf := z_neg q174 hf
          refine za_iconst (v := (0 : Int32)) C (by decide) dL_law_695 ?_
          exact absurd (show (0 : Int32) = 1 from hE _ (z_inj hf)) (by decide)
      have hf := z_neg q165 hf
      by_cases q175 : v34 = (13 : Int32)
      · have hf := z_pos q175 hf
        refine za_tsIn C 697 (13) q175 (by decide) (by decide) rfl (by decide) dL_law_33 ?_
        refine za_aload_n C 1 rfl rfl dL_law_697 ?_
        obtain ⟨v177, N178, hc176, hf⟩ := z_b2 hf
        refine za_callCL (n := 0) (rest := []) C (cX5_first_ok l D ck adC n mc _ _ hc176) gL_law_X5_first rfl rfl rfl (by decide +kernel) ⟨Nat.le_trans (Nat.le_of_ble_eq_true rfl) hR1, Nat.le_trans (Nat.le_of_ble_eq_true rfl) hR2⟩ rfl rfl (Nat.le_of_ble_eq_true rfl) hcs dL_law_698 ?_
        refine za_aload_n C 2 rfl rfl dL_law_701 ?_
        obtain ⟨v180, N181, hc179, hf⟩ := z_b2 hf
        refine za_callRL (n := 0) (rest := [.int v177]) C (cX6_first_ok l D ck adR n mr _ _ hc179) gL_law_X6_first rfl rfl rfl (by decide +kernel) ⟨Nat.le_trans (Nat.le_of_ble_eq_true rfl) hR1, Nat.le_trans (Nat.le_of_ble_eq_true rfl) hR2⟩ rfl rfl (Nat.le_of_ble_eq_true rfl) hcs dL_law_702 ?_
        refine za_icmp_eq C 1149 (by decide) dL_law_705 (fun q182 => ?_) (fun q182 => ?_)
        · have hf := z_pos q182 hf
          exact za_sub [0, 1, 2, 3] rfl (j_1149 x3 N178 N181 hf)
        · have hf := z_neg q182 hf
          refine za_iconst (v := (0 : Int32)) C (by decide) dL_law_708 ?_
          exact absurd (show (0 : Int32) = 1 from hE _ (z_inj hf)) (by decide)
      have hf := z_neg q175 hf
      by_cases q183 : v34 = (14 : Int32)
      · have hf := z_pos q183 hf
        refine za_tsIn C 710 (14) q183 (by decide) (by decide) rfl (by decide) dL_law_33 ?_
        refine za_aload_n C 1 rfl rfl dL_law_710 ?_
        refine za_aload_n C 0 rfl rfl dL_law_711 ?_
        refine za_iload_n C 3 rfl rfl dL_law_712 ?_
        refine za_iconst (v := (1 : Int32)) C (by decide) dL_law_713 ?_
        refine za_iadd C dL_law_714 ?_
        obtain ⟨h184, hf⟩ := z_chk hf
        refine za_sld C hX hbl hbA h184 dL_law_715 ?_
        obtain ⟨v186, N187, hc185, hf⟩ := z_b2 hf
        refine za_callCL (n := 1) (rest := []) C (cX5_masked_ok l D ck adC n (xs (x3 + (1 : Int32)).toNatClampNeg) mc _ _ hc185) gL_law_X5_masked rfl rfl rfl (by decide +kernel) ⟨Nat.le_trans (Nat.le_of_ble_eq_true rfl) hR1, Nat.le_trans (Nat.le_of_ble_eq_true rfl) hR2⟩ rfl rfl (Nat.le_of_ble_eq_true rfl) hcs dL_law_716 ?_
        refine za_aload_n C 2 rfl rfl dL_law_719 ?_
        refine za_aload_n C 0 rfl rfl dL_law_720 ?_
        refine za_iload_n C 3 rfl rfl dL_law_721 ?_
        refine za_iconst (v := (1 : Int32)) C (by decide) dL_law_722 ?_
        refine za_iadd C dL_law_723 ?_
        obtain ⟨h188, hf⟩ := z_chk hf
        refine za_sld C hX hbl hbA h188 dL_law_724 ?_
        obtain ⟨v190, N191, hc189, hf⟩ := z_b2 hf
        refine za_callRL (n := 1) (rest := [.int v186]) C (cX6_masked_ok l D ck adR n (xs (x3 + (1 : Int32)).toNatClampNeg) mr _ _ hc189) gL_law_X6_masked rfl rfl rfl (by decide +kernel) ⟨Nat.le_trans (Nat.le_of_ble_eq_true rfl) hR1, Nat.le_trans (Nat.le_of_ble_eq_true rfl) hR2⟩ rfl rfl (Nat.le_of_ble_eq_true rfl) hcs dL_law_725 ?_
        refine za_icmp_eq C 1149 (by decide) dL_law_728 (fun q192 => ?_) (fun q192 => ?_)
        · have hf := z_pos q192 hf
          exact za_sub [0, 1, 2, 3] rfl (j_1149 x3 N187 N191 hf)
        · have hf := z_neg q192 hf
          refine za_iconst (v := (0 : Int32)) C (by decide) dL_law_731 ?_
          exact absurd (show (0 : Int32) = 1 from hE _ (z_inj hf)) (by decide)
      have hf := z_neg q183 hf
      by_cases q193 : v34 = (15 : Int32)
      · have hf := z_pos q193 hf
        refine za_tsIn C 733 (15) q193 (by decide) (by decide) rfl (by decide) dL_law_33 ?_
        refine za_aload_n C 1 rfl rfl dL_law_733 ?_
        refine za_aload_n C 0 rfl rfl dL_law_734 ?_
        refine za_iload_n C 3 rfl rfl dL_law_735 ?_
        refine za_iconst (v := (1 : Int32)) C (by decide) dL_law_736 ?_
        refine za_iadd C dL_law_737 ?_
        obtain ⟨h194, hf⟩ := z_chk hf
        refine za_sld C hX hbl hbA h194 dL_law_738 ?_
        obtain ⟨v196, N197, hc195, hf⟩ := z_b2 hf
        refine za_callCL (n := 1) (rest := []) C (cX5_pairs_ok l D ck adC n (xs (x3 + (1 : Int32)).toNatClampNeg) mc _ _ hc195) gL_law_X5_pairs rfl rfl rfl (by decide +kernel) ⟨Nat.le_trans (Nat.le_of_ble_eq_true rfl) hR1, Nat.le_trans (Nat.le_of_ble_eq_true rfl) hR2⟩ rfl rfl (Nat.le_of_ble_eq_true rfl) hcs dL_law_739 ?_
        refine za_aload_n C 2 rfl rfl dL_law_742 ?_
        refine za_aload_n C 0 rfl rfl dL_law_743 ?_
        refine za_iload_n C 3 rfl rfl dL_law_744 ?_
        refine za_iconst (v := (1 : Int32)) C (by decide) dL_law_745 ?_
        refine za_iadd C dL_law_746 ?_
        obtain ⟨h198, hf⟩ := z_chk hf
        refine za_sld C hX hbl hbA h198 dL_law_747 ?_
        obtain ⟨v200, N201, hc199, hf⟩ := z_b2 hf
        refine za_callRL (n := 1) (rest := [.int v196]) C (cX6_pairs_ok l D ck adR n (xs (x3 + (1 : Int32)).toNatClampNeg) mr _ _ hc199) gL_law_X6_pairs rfl rfl rfl (by decide +kernel) ⟨Nat.le_trans (Nat.le_of_ble_eq_true rfl) hR1, Nat.le_trans (Nat.le_of_ble_eq_true rfl) hR2⟩ rfl rfl (Nat.le_of_ble_eq_true rfl) hcs dL_law_748 ?_
        refine za_icmp_eq C 1149 (by decide) dL_law_751 (fun q202 => ?_) (fun q202 => ?_)
        · have hf := z_pos q202 hf
          exact za_sub [0, 1, 2, 3] rfl (j_1149 x3 N197 N201 hf)
        · have hf := z_neg q202 hf
          refine za_iconst (v := (0 : Int32)) C (by decide) dL_law_754 ?_
          exact absurd (show (0 : Int32) = 1 from hE _ (z_inj hf)) (by decide)
      have hf := z_neg q193 hf
      by_cases q203 : v34 = (16 : Int32)
      · have hf := z_pos q203 hf
        refine za_tsIn C 756 (16) q203 (by decide) (by decide) rfl (by decide) dL_law_33 ?_
        refine za_aload_n C 1 rfl rfl dL_law_756 ?_
        refine za_aload_n C 0 rfl rfl dL_law_757 ?_
        refine za_iload_n C 3 rfl rfl dL_law_758 ?_
        refine za_iconst (v := (1 : Int32)) C (by decide) dL_law_759 ?_
        refine za_iadd C dL_law_760 ?_
        obtain ⟨h204, hf⟩ := z_chk hf
        refine za_sld C hX hbl hbA h204 dL_law_761 ?_
        refine za_aload_n C 0 rfl rfl dL_law_762 ?_
        refine za_iload_n C 3 rfl rfl dL_law_763 ?_
        refine za_iconst (v := (2 : Int32)) C (by decide) dL_law_764 ?_
        refine za_iadd C dL_law_765 ?_
        obtain ⟨h205, hf⟩ := z_chk hf
        refine za_sld C hX hbl hbA h205 dL_law_766 ?_
        obtain ⟨v207, N208, hc206, hf⟩ := z_b2 hf
        refine za_callCL (n := 2) (rest := []) C (cX5_leads_ok l D ck adC n (xs (x3 + (1 : Int32)).toNatClampNeg) (xs (x3 + (2 : Int32)).toNatClampNeg) mc _ _ hc206) gL_law_X5_leads rfl rfl rfl (by decide +kernel) ⟨Nat.le_trans (Nat.le_of_ble_eq_true rfl) hR1, Nat.le_trans (Nat.le_of_ble_eq_true rfl) hR2⟩ rfl rfl (Nat.le_of_ble_eq_true rfl) hcs dL_law_767 ?_
        refine za_aload_n C 2 rfl rfl dL_law_770 ?_
        refine za_aload_n C 0 rfl rfl dL_law_771 ?_
        refine za_iload_n C 3 rfl rfl dL_law_772 ?_
        refine za_iconst (v := (1 : Int32)) C (by decide) dL_law_773 ?_
        refine za_iadd C dL_law_774 ?_
        obtain ⟨h209, hf⟩ := z_chk hf
        refine za_sld C hX hbl hbA h209 dL_law_775 ?_
        refine za_aload_n C 0 rfl rfl dL_law_776 ?_
        refine za_iload_n C 3 rfl rfl dL_law_777 ?_
        refine za_iconst (v := (2 : Int32)) C (by decide) dL_law_778 ?_
        refine za_iadd C dL_law_779 ?_
        obtain ⟨h210, hf⟩ := z_chk hf
        refine za_sld C hX hbl hbA h210 dL_law_780 ?_
        obtain ⟨v212, N213, hc211, hf⟩ := z_b2 hf
        refine za_callRL (n := 2) (rest := [.int v207]) C (cX6_leads_ok l D ck adR n (xs (x3 + (1 : Int32)).toNatClampNeg) (xs (x3 + (2 : Int32)).toNatClampNeg) mr _ _ hc211) gL_law_X6_leads rfl rfl rfl (by decide +kernel) ⟨Nat.le_trans (Nat.le_of_ble_eq_true rfl) hR1, Nat.le_trans (Nat.le_of_ble_eq_true rfl) hR2⟩ rfl rfl (Nat.le_of_ble_eq_true rfl) hcs dL_law_781 ?_
        refine za_icmp_eq C 1149 (by decide) dL_law_784 (fun q214 => ?_) (fun q214 => ?_)
        · have hf := z_pos q214 hf
          exact za_sub [0, 1, 2, 3] rfl (j_1149 x3 N208 N213 hf)
        · have hf := z_neg q214 hf
          refine za_iconst (v := (0 : Int32)) C (by decide) dL_law_787 ?_
          exact absurd (show (0 : Int32) = 1 from hE _ (z_inj hf)) (by decide)
      have hf := z_neg q203 hf
      by_cases q215 : v34 = (17 : Int32)
      · have hf := z_pos q215 hf
        refine za_tsIn C 789 (17) q215 (by decide) (by decide) rfl (by decide) dL_law_33 ?_
        refine za_aload_n C 1 rfl rfl dL_law_789 ?_
        refine za_aload_n C 0 rfl rfl dL_law_790 ?_
        refine za_iload_n C 3 rfl rfl dL_law_791 ?_
        refine za_iconst (v := (1 : Int32)) C (by decide) dL_law_792 ?_
        refine za_iadd C dL_law_793 ?_
        obtain ⟨h216, hf⟩ := z_chk hf
        refine za_sld C hX hbl hbA h216 dL_law_794 ?_
        obtain ⟨v218, N219, hc217, hf⟩ := z_b2 hf
        refine za_callCL (n := 1) (rest := []) C (cX5_breaks_ok l D ck adC n (xs (x3 + (1 : Int32)).toNatClampNeg) mc _ _ hc217) gL_law_X5_breaks rfl rfl rfl (by decide +kernel) ⟨Nat.le_trans (Nat.le_of_ble_eq_true rfl) hR1, Nat.le_trans (Nat.le_of_ble_eq_true rfl) hR2⟩ rfl rfl (Nat.le_of_ble_eq_true rfl) hcs dL_law_795 ?_
        refine za_aload_n C 2 rfl rfl dL_law_798 ?_
        refine za_aload_n C 0 rfl rfl dL_law_799 ?_
        refine za_iload_n C 3 rfl rfl dL_law_800 ?_
        refine za_iconst (v := (1 : Int32)) C (by decide) dL_law_801 ?_
        refine za_iadd C dL_law_802 ?_
        obtain ⟨h220, hf⟩ := z_chk hf
        refine za_sld C hX hbl hbA h220 dL_law_803 ?_
        obtain ⟨v222, N223, hc221, hf⟩ := z_b2 hf
        refine za_callRL (n := 1) (rest := [.int v218]) C (cX6_breaks_ok l D ck adR n (xs (x3 + (1 : Int32)).toNatClampNeg) mr _ _ hc221) gL_law_X6_breaks rfl rfl rfl (by decide +kernel) ⟨Nat.le_trans (Nat.le_of_ble_eq_true rfl) hR1, Nat.le_trans (Nat.le_of_ble_eq_true rfl) hR2⟩ rfl rfl (Nat.le_of_ble_eq_true rfl) hcs dL_law_804 ?_
        refine za_icmp_eq C 1149 (by decide) dL_law_807 (fun q224 => ?_) (fun q224 => ?_)
        · have hf := z_pos q224 hf
          exact za_sub [0, 1, 2, 3] rfl (j_1149 x3 N219 N223 hf)
        · have hf := z_neg q224 hf
          refine za_iconst (v := (0 : Int32)) C (by decide) dL_law_810 ?_
          exact absurd (show (0 : Int32) = 1 from hE _ (z_inj hf)) (by decide)
      have hf := z_neg q215 hf
      by_cases q225 : v34 = (18 : Int32)
      · have hf := z_pos q225 hf
        refine za_tsIn C 812 (18) q225 (by decide) (by decide) rfl (by decide) dL_law_33 ?_
        refine za_aload_n C 1 rfl rfl dL_law_812 ?_
        obtain ⟨v227, N228, hc226, hf⟩ := z_b2 hf
        refine za_callCL (n := 0) (rest := []) C (cX5_best_ok l D ck adC n mc _ _ hc226) gL_law_X5_best rfl rfl rfl (by decide +kernel) ⟨Nat.le_trans (Nat.le_of_ble_eq_true rfl) hR1, Nat.le_trans (Nat.le_of_ble_eq_true rfl) hR2⟩ rfl rfl (Nat.le_of_ble_eq_true rfl) hcs dL_law_813 ?_
        refine za_aload_n C 2 rfl rfl dL_law_816 ?_
        obtain ⟨v230, N231, hc229, hf⟩ := z_b2 hf
        refine za_callRL (n := 0) (rest := [.int v227]) C (cX6_best_ok l D ck adR n mr _ _ hc229) gL_law_X6_best rfl rfl rfl (by decide +kernel) ⟨Nat.le_trans (Nat.le_of_ble_eq_true rfl) hR1, Nat.le_trans (Nat.le_of_ble_eq_true rfl) hR2⟩ rfl rfl (Nat.le_of_ble_eq_true rfl) hcs dL_law_817 ?_
        refine za_icmp_eq C 1149 (by decide) dL_law_820 (fun q232 => ?_) (fun q232 => ?_)
        · have hf := z_pos q232 hf
          exact za_sub [0, 1, 2, 3] rfl (j_1149 x3 N228 N231 hf)
        · have hf := z_neg q232 hf
          refine za_iconst (v := (0 : Int32)) C (by decide) dL_law_823 ?_
          exact absurd (show (0 : Int32) = 1 from hE _ (z_inj hf)) (by decide)
      have hf := z_neg q225 hf
      by_cases q233 : v34 = (19 : Int32)
      · have hf := z_pos q233 hf
        refine za_tsIn C 825 (19) q233 (by decide) (by decide) rfl (by decide) dL_law_33 ?_
        refine za_aload_n C 1 rfl rfl dL_law_825 ?_
        obtain ⟨v235, N236, hc234, hf⟩ := z_b2 hf
        refine za_callCL (n := 0) (rest := []) C (cX5_harden_ok l D ck adC n mc _ _ hc234) gL_law_X5_harden rfl rfl rfl (by decide +kernel) ⟨Nat.le_trans (Nat.le_of_ble_eq_true rfl) hR1, Nat.le_trans (Nat.le_of_ble_eq_true rfl) hR2⟩ rfl rfl (Nat.le_of_ble_eq_true rfl) hcs dL_law_826 ?_
        refine za_aload_n C 2 rfl rfl dL_law_829 ?_
        obtain ⟨v238, N239, hc237, hf⟩ := z_b2 hf
        refine za_callRL (n := 0) (rest := [.int v235]) C (cX6_harden_ok l D ck adR n mr _ _ hc237) gL_law_X6_harden rfl rfl rfl (by decide +kernel) ⟨Nat.le_trans (Nat.le_of_ble_eq_true rfl) hR1, Nat.le_trans (Nat.le_of_ble_eq_true rfl) hR2⟩ rfl rfl (Nat.le_of_ble_eq_true rfl) hcs dL_law_830 ?_
        refine za_icmp_eq C 1149 (by decide) dL_law_833 (fun q240 => ?_) (fun q240 => ?_)
        · have hf := z_pos q240 hf
          exact za_sub [0, 1, 2, 3] rfl (j_1149 x3 N236 N239 hf)
        · have hf := z_neg q240 hf
          refine za_iconst (v := (0 : Int32)) C (by decide) dL_law_836 ?_
          exact absurd (show (0 : Int32) = 1 from hE _ (z_inj hf)) (by decide)
      have hf := z_neg q233 hf
      by_cases q241 : v34 = (20 : Int32)
      · have hf := z_pos q241 hf
        refine za_tsIn C 838 (20) q241 (by decide) (by decide) rfl (by decide) dL_law_33 ?_
        refine za_aload_n C 1 rfl rfl dL_law_838 ?_
        refine za_aload_n C 0 rfl rfl dL_law_839 ?_
        refine za_iload_n C 3 rfl rfl dL_law_840 ?_
        refine za_iconst (v := (1 : Int32)) C (by decide) dL_law_841 ?_
        refine za_iadd C dL_law_842 ?_
        obtain ⟨h242, hf⟩ := z_chk hf
        refine za_sld C hX hbl hbA h242 dL_law_843 ?_
        obtain ⟨v244, N245, hc243, hf⟩ := z_b2 hf
        refine za_callCL (n := 1) (rest := []) C (cX5_voter_ok l D ck adC (xs (x3 + (1 : Int32)).toNatClampNeg) mc _ _ hc243) gL_law_X5_voter rfl rfl rfl (by decide +kernel) ⟨Nat.le_trans (Nat.le_of_ble_eq_true rfl) hR1, Nat.le_trans (Nat.le_of_ble_eq_true rfl) hR2⟩ rfl rfl (Nat.le_of_ble_eq_true rfl) hcs dL_law_844 ?_
        refine za_aload_n C 2 rfl rfl dL_law_847 ?_
        refine za_aload_n C 0 rfl rfl dL_law_848 ?_
        refine za_iload_n C 3 rfl rfl dL_law_849 ?_
        refine za_iconst (v := (1 : Int32)) C (by decide) dL_law_850 ?_
        refine za_iadd C dL_law_851 ?_
        obtain ⟨h246, hf⟩ := z_chk hf
        refine za_sld C hX hbl hbA h246 dL_law_852 ?_
        obtain ⟨v248, N249, hc247, hf⟩ := z_b2 hf
        refine za_callRL (n := 1) (rest := [.int v244]) C (cX6_voter_ok l D ck adR (xs (x3 + (1 : Int32)).toNatClampNeg) mr _ _ hc247) gL_law_X6_voter rfl rfl rfl (by decide +kernel) ⟨Nat.le_trans (Nat.le_of_ble_eq_true rfl) hR1, Nat.le_trans (Nat.le_of_ble_eq_true rfl) hR2⟩ rfl rfl (Nat.le_of_ble_eq_true rfl) hcs dL_law_853 ?_
        refine za_icmp_eq C 1149 (by decide) dL_law_856 (fun q250 => ?_) (fun q250 => ?_)
        · have hf := z_pos q250 hf
          exact za_sub [0, 1, 2, 3] rfl (j_1149 x3 N245 N249 hf)
        · have hf := z_neg q250 hf
          refine za_iconst (v := (0 : Int32)) C (by decide) dL_law_859 ?_
          exact absurd (show (0 : Int32) = 1 from hE _ (z_inj hf)) (by decide)
      have hf := z_neg q241 hf
      by_cases q251 : v34 = (21 : Int32)
      · have hf := z_pos q251 hf
        refine za_tsIn C 861 (21) q251 (by decide) (by decide) rfl (by decide) dL_law_33 ?_
        refine za_aload_n C 1 rfl rfl dL_law_861 ?_
        obtain ⟨v253, hc252, hf⟩ := z_bind hf
        refine za_callCL (n := 0) (rest := []) C (cX5_cost_ok l D ck adC n mc _ hc252) gL_law_X5_cost rfl rfl rfl (by decide +kernel) ⟨Nat.le_trans (Nat.le_of_ble_eq_true rfl) hR1, Nat.le_trans (Nat.le_of_ble_eq_true rfl) hR2⟩ rfl rfl (Nat.le_of_ble_eq_true rfl) hcs dL_law_862 ?_
        refine za_aload_n C 2 rfl rfl dL_law_865 ?_
        obtain ⟨v255, hc254, hf⟩ := z_bind hf
        refine za_callRL (n := 0) (rest := [.int v253]) C (cX6_cost_ok l D ck adR n mr _ hc254) gL_law_X6_cost rfl rfl rfl (by decide +kernel) ⟨Nat.le_trans (Nat.le_of_ble_eq_true rfl) hR1, Nat.le_trans (Nat.le_of_ble_eq_true rfl) hR2⟩ rfl rfl (Nat.le_of_ble_eq_true rfl) hcs dL_law_866 ?_
        refine za_icmp_eq C 1149 (by decide) dL_law_869 (fun q256 => ?_) (fun q256 => ?_)
        · have hf := z_pos q256 hf
          exact za_sub [0, 1, 2, 3] rfl (j_1149 x3 mc mr hf)
        · have hf := z_neg q256 hf
          refine za_iconst (v := (0 : Int32)) C (by decide) dL_law_872 ?_
          exact absurd (show (0 : Int32) = 1 from hE _ (z_inj hf)) (by decide)
      have hf := z_neg q251 hf
      by_cases q257 : v34 = (22 : Int32)
      · have hf := z_pos q257 hf
        refine za_tsIn C 874 (22) q257 (by decide) (by decide) rfl (by decide) dL_law_33 ?_
        refine za_aload_n C 1 rfl rfl dL_law_874 ?_
        obtain ⟨v259, N260, hc258, hf⟩ := z_b2 hf
        refine za_callCL (n := 0) (rest := []) C (cX5_slow_ok l D ck adC n mc _ _ hc258) gL_law_X5_slow rfl rfl rfl (by decide +kernel) ⟨Nat.le_trans (Nat.le_of_ble_eq_true rfl) hR1, Nat.le_trans (Nat.le_of_ble_eq_true rfl) hR2⟩ rfl rfl (Nat.le_of_ble_eq_true rfl) hcs dL_law_875 ?_
        refine za_aload_n C 2 rfl rfl dL_law_878 ?_
        obtain ⟨v262, N263, hc261, hf⟩ := z_b2 hf
        refine za_callRL (n := 0) (rest := [.int v259]) C (cX6_slow_ok l D ck adR n mr _ _ hc261) gL_law_X6_slow rfl rfl rfl (by decide +kernel) ⟨Nat.le_trans (Nat.le_of_ble_eq_true rfl) hR1, Nat.le_trans (Nat.le_of_ble_eq_true rfl) hR2⟩ rfl rfl (Nat.le_of_ble_eq_true rfl) hcs dL_law_879 ?_
        refine za_icmp_eq C 1149 (by decide) dL_law_882 (fun q264 => ?_) (fun q264 => ?_)
        · have hf := z_pos q264 hf
          exact za_sub [0, 1, 2, 3] rfl (j_1149 x3 N260 N263 hf)
        · have hf := z_neg q264 hf
          refine za_iconst (v := (0 : Int32)) C (by decide) dL_law_885 ?_
          exact absurd (show (0 : Int32) = 1 from hE _ (z_inj hf)) (by decide)
      have hf := z_neg q257 hf
      by_cases q265 : v34 = (23 : Int32)
      · have hf := z_pos q265 hf
        refine za_tsIn C 887 (23) q265 (by decide) (by decide) rfl (by decide) dL_law_33 ?_
        refine za_aload_n C 1 rfl rfl dL_law_887 ?_
        refine za_aload_n C 0 rfl rfl dL_law_888 ?_
        refine za_iload_n C 3 rfl rfl dL_law_889 ?_
        refine za_iconst (v := (1 : Int32)) C (by decide) dL_law_890 ?_
        refine za_iadd C dL_law_891 ?_
        obtain ⟨h266, hf⟩ := z_chk hf
        refine za_sld C hX hbl hbA h266 dL_law_892 ?_
        refine za_aload_n C 0 rfl rfl dL_law_893 ?_
        refine za_iload_n C 3 rfl rfl dL_law_894 ?_
        refine za_iconst (v := (2 : Int32)) C (by decide) dL_law_895 ?_
        refine za_iadd C dL_law_896 ?_
        obtain ⟨h267, hf⟩ := z_chk hf
        refine za_sld C hX hbl hbA h267 dL_law_897 ?_
        refine za_aload_n C 0 rfl rfl dL_law_898 ?_
        refine za_iload_n C 3 rfl rfl dL_law_899 ?_
        refine za_iconst (v := (3 : Int32)) C (by decide) dL_law_900 ?_
        refine za_iadd C dL_law_901 ?_
        obtain ⟨h268, hf⟩ := z_chk hf
        refine za_sld C hX hbl hbA h268 dL_law_902 ?_
        obtain ⟨v270, N271, hc269, hf⟩ := z_b2 hf
        refine za_callCL (n := 3) (rest := []) C (cX5_sheet_ok l D ck adC n (xs (x3 + (1 : Int32)).toNatClampNeg) (xs (x3 + (2 : Int32)).toNatClampNeg) (xs (x3 + (3 : Int32)).toNatClampNeg) mc _ _ hc269) gL_law_X5_sheet rfl rfl rfl (by decide +kernel) ⟨Nat.le_trans (Nat.le_of_ble_eq_true rfl) hR1, Nat.le_trans (Nat.le_of_ble_eq_true rfl) hR2⟩ rfl rfl (Nat.le_of_ble_eq_true rfl) hcs dL_law_903 ?_
        refine za_aload_n C 2 rfl rfl dL_law_906 ?_
        refine za_aload_n C 0 rfl rfl dL_law_907 ?_
        refine za_iload_n C 3 rfl rfl dL_law_908 ?_
        refine za_iconst (v := (1 : Int32)) C (by decide) dL_law_909 ?_
        refine za_iadd C dL_law_910 ?_
        obtain ⟨h272, hf⟩ := z_chk hf
        refine za_sld C hX hbl hbA h272 dL_law_911 ?_
        refine za_aload_n C 0 rfl rfl dL_law_912 ?_
        refine za_iload_n C 3 rfl rfl dL_law_913 ?_
        refine za_iconst (v := (2 : Int32)) C (by decide) dL_law_914 ?_
        refine za_iadd C dL_law_915 ?_
        obtain ⟨h273, hf⟩ := z_chk hf
        refine za_sld C hX hbl hbA h273 dL_law_916 ?_
        refine za_aload_n C 0 rfl rfl dL_law_917 ?_
        refine za_iload_n C 3 rfl rfl dL_law_918 ?_
        refine za_iconst (v := (3 : Int32)) C (by decide) dL_law_919 ?_
        refine za_iadd C dL_law_920 ?_
        obtain ⟨h274, hf⟩ := z_chk hf
        refine za_sld C hX hbl hbA h274 dL_law_921 ?_
        obtain ⟨v276, N277, hc275, hf⟩ := z_b2 hf
        refine za_callRL (n := 3) (rest := [.int v270]) C (cX6_sheet_ok l D ck adR n (xs (x3 + (1 : Int32)).toNatClampNeg) (xs (x3 + (2 : Int32)).toNatClampNeg) (xs (x3 + (3 : Int32)).toNatClampNeg) mr _ _ hc275) gL_law_X6_sheet rfl rfl rfl (by decide +kernel) ⟨Nat.le_trans (Nat.le_of_ble_eq_true rfl) hR1, Nat.le_trans (Nat.le_of_ble_eq_true rfl) hR2⟩ rfl rfl (Nat.le_of_ble_eq_true rfl) hcs dL_law_922 ?_
        refine za_icmp_eq C 1149 (by decide) dL_law_925 (fun q278 => ?_) (fun q278 => ?_)
        · have hf := z_pos q278 hf
          exact za_sub [0, 1, 2, 3] rfl (j_1149 x3 N271 N277 hf)
        · have hf := z_neg q278 hf
          refine za_iconst (v := (0 : Int32)) C (by decide) dL_law_928 ?_
          exact absurd (show (0 : Int32) = 1 from hE _ (z_inj hf)) (by decide)
      have hf := z_neg q265 hf
      by_cases q279 : v34 = (24 : Int32)
      · have hf := z_pos q279 hf
        refine za_tsIn C 930 (24) q279 (by decide) (by decide) rfl (by decide) dL_law_33 ?_
        refine za_aload_n C 1 rfl rfl dL_law_930 ?_
        refine za_aload_n C 0 rfl rfl dL_law_931 ?_
        refine za_iload_n C 3 rfl rfl dL_law_932 ?_
        refine za_iconst (v := (1 : Int32)) C (by decide) dL_law_933 ?_
        refine za_iadd C dL_law_934 ?_
        obtain ⟨h280, hf⟩ := z_chk hf
        refine za_sld C hX hbl hbA h280 dL_law_935 ?_
        obtain ⟨v282, N283, hc281, hf⟩ := z_b2 hf
        refine za_callCL (n := 1) (rest := []) C (cX5_lose_ok l D ck adC (xs (x3 + (1 : Int32)).toNatClampNeg) mc _ _ hc281) gL_law_X5_lose rfl rfl rfl (by decide +kernel) ⟨Nat.le_trans (Nat.le_of_ble_eq_true rfl) hR1, Nat.le_trans (Nat.le_of_ble_eq_true rfl) hR2⟩ rfl rfl (Nat.le_of_ble_eq_true rfl) hcs dL_law_936 ?_
        refine za_aload_n C 2 rfl rfl dL_law_939 ?_
        refine za_aload_n C 0 rfl rfl dL_law_940 ?_
        refine za_iload_n C 3 rfl rfl dL_law_941 ?_
        refine za_iconst (v := (1 : Int32)) C (by decide) dL_law_942 ?_
        refine za_iadd C dL_law_943 ?_
        obtain ⟨h284, hf⟩ := z_chk hf
        refine za_sld C hX hbl hbA h284 dL_law_944 ?_
        obtain ⟨v286, N287, hc285, hf⟩ := z_b2 hf
        refine za_callRL (n := 1) (rest := [.int v282]) C (cX6_lose_ok l D ck adR (xs (x3 + (1 : Int32)).toNatClampNeg) mr _ _ hc285) gL_law_X6_lose rfl rfl rfl (by decide +kernel) ⟨Nat.le_trans (Nat.le_of_ble_eq_true rfl) hR1, Nat.le_trans (Nat.le_of_ble_eq_true rfl) hR2⟩ rfl rfl (Nat.le_of_ble_eq_true rfl) hcs dL_law_945 ?_
        refine za_icmp_eq C 1149 (by decide) dL_law_948 (fun q288 => ?_) (fun q288 => ?_)
        · have hf := z_pos q288 hf
          exact za_sub [0, 1, 2, 3] rfl (j_1149 x3 N283 N287 hf)
        · have hf := z_neg q288 hf
          refine za_iconst (v := (0 : Int32)) C (by decide) dL_law_951 ?_
          exact absurd (show (0 : Int32) = 1 from hE _ (z_inj hf)) (by decide)
      have hf := z_neg q279 hf
      by_cases q289 : v34 = (25 : Int32)
      · have hf := z_pos q289 hf
        refine za_tsIn C 953 (25) q289 (by decide) (by decide) rfl (by decide) dL_law_33 ?_
        refine za_aload_n C 1 rfl rfl dL_law_953 ?_
        refine za_aload_n C 0 rfl rfl dL_law_954 ?_
        refine za_iload_n C 3 rfl rfl dL_law_955 ?_
        refine za_iconst (v := (1 : Int32)) C (by decide) dL_law_956 ?_
        refine za_iadd C dL_law_957 ?_
        obtain ⟨h290, hf⟩ := z_chk hf
        refine za_sld C hX hbl hbA h290 dL_law_958 ?_
        refine za_aload_n C 0 rfl rfl dL_law_959 ?_
        refine za_iload_n C 3 rfl rfl dL_law_960 ?_
        refine za_iconst (v := (2 : Int32)) C (by decide) dL_law_961 ?_
        refine za_iadd C dL_law_962 ?_
        obtain ⟨h291, hf⟩ := z_chk hf
        refine za_sld C hX hbl hbA h291 dL_law_963 ?_
        refine za_aload_n C 0 rfl rfl dL_law_964 ?_
        refine za_iload_n C 3 rfl rfl dL_law_965 ?_
        refine za_iconst (v := (3 : Int32)) C (by decide) dL_law_966 ?_
        refine za_iadd C dL_law_967 ?_
        obtain ⟨h292, hf⟩ := z_chk hf
        refine za_sld C hX hbl hbA h292 dL_law_968 ?_
        refine za_aload_n C 0 rfl rfl dL_law_969 ?_
        refine za_iload_n C 3 rfl rfl dL_law_970 ?_
        refine za_iconst (v := (4 : Int32)) C (by decide) dL_law_971 ?_
        refine za_iadd C dL_law_972 ?_
        obtain ⟨h293, hf⟩ := z_chk hf
        refine za_sld C hX hbl hbA h293 dL_law_973 ?_
        obtain ⟨v295, N296, hc294, hf⟩ := z_b2 hf
        refine za_callCL (n := 4) (rest := []) C (cX5_put_ok l D ck adC (xs (x3 + (1 : Int32)).toNatClampNeg) (xs (x3 + (2 : Int32)).toNatClampNeg) (xs (x3 + (3 : Int32)).toNatClampNeg) (xs (x3 + (4 : Int32)).toNatClampNeg) mc _ _ hc294) gL_law_X5_put rfl rfl rfl (by decide +kernel) ⟨Nat.le_trans (Nat.le_of_ble_eq_true rfl) hR1, Nat.le_trans (Nat.le_of_ble_eq_true rfl) hR2⟩ rfl rfl (Nat.le_of_ble_eq_true rfl) hcs dL_law_974 ?_
        refine za_aload_n C 2 rfl rfl dL_law_977 ?_
        refine za_aload_n C 0 rfl rfl dL_law_978 ?_
        refine za_iload_n C 3 rfl rfl dL_law_979 ?_
        refine za_iconst (v := (1 : Int32)) C (by decide) dL_law_980 ?_
        refine za_iadd C dL_law_981 ?_
        obtain ⟨h297, hf⟩ := z_chk hf
        refine za_sld C hX hbl hbA h297 dL_law_982 ?_
        refine za_aload_n C 0 rfl rfl dL_law_983 ?_
        refine za_iload_n C 3 rfl rfl dL_law_984 ?_
        refine za_iconst (v := (2 : Int32)) C (by decide) dL_law_985 ?_
        refine za_iadd C dL_law_986 ?_
        obtain ⟨h298, hf⟩ := z_chk hf
        refine za_sld C hX hbl hbA h298 dL_law_987 ?_
        refine za_aload_n C 0 rfl rfl dL_law_988 ?_
        refine za_iload_n C 3 rfl rfl dL_law_989 ?_
        refine za_iconst (v := (3 : Int32)) C (by decide) dL_law_990 ?_
        refine za_iadd C dL_law_991 ?_
        obtain ⟨h299, hf⟩ := z_chk hf
        refine za_sld C hX hbl hbA h299 dL_law_992 ?_
        refine za_aload_n C 0 rfl rfl dL_law_993 ?_
        refine za_iload_n C 3 rfl rfl dL_law_994 ?_
        refine za_iconst (v := (4 : Int32)) C (by decide) dL_law_995 ?_
        refine za_iadd C dL_law_996 ?_
        obtain ⟨h300, hf⟩ := z_chk hf
        refine za_sld C hX hbl hbA h300 dL_law_997 ?_
        obtain ⟨v302, N303, hc301, hf⟩ := z_b2 hf
        refine za_callRL (n := 4) (rest := [.int v295]) C (cX6_put_ok l D ck adR (xs (x3 + (1 : Int32)).toNatClampNeg) (xs (x3 + (2 : Int32)).toNatClampNeg) (xs (x3 + (3 : Int32)).toNatClampNeg) (xs (x3 + (4 : Int32)).toNatClampNeg) mr _ _ hc301) gL_law_X6_put rfl rfl rfl (by decide +kernel) ⟨Nat.le_trans (Nat.le_of_ble_eq_true rfl) hR1, Nat.le_trans (Nat.le_of_ble_eq_true rfl) hR2⟩ rfl rfl (Nat.le_of_ble_eq_true rfl) hcs dL_law_998 ?_
        refine za_icmp_eq C 1149 (by decide) dL_law_1001 (fun q304 => ?_) (fun q304 => ?_)
        · have hf := z_pos q304 hf
          exact za_sub [0, 1, 2, 3] rfl (j_1149 x3 N296 N303 hf)
        · have hf := z_neg q304 hf
          refine za_iconst (v := (0 : Int32)) C (by decide) dL_law_1004 ?_
          exact absurd (show (0 : Int32) = 1 from hE _ (z_inj hf)) (by decide)
      have hf := z_neg q289 hf
      by_cases q305 : v34 = (26 : Int32)
      · have hf := z_pos q305 hf
        refine za_tsIn C 1006 (26) q305 (by decide) (by decide) rfl (by decide) dL_law_33 ?_
        refine za_aload_n C 1 rfl rfl dL_law_1006 ?_
        refine za_aload_n C 0 rfl rfl dL_law_1007 ?_
        refine za_iload_n C 3 rfl rfl dL_law_1008 ?_
        refine za_iconst (v := (1 : Int32)) C (by decide) dL_law_1009 ?_
        refine za_iadd C dL_law_1010 ?_
        obtain ⟨h306, hf⟩ := z_chk hf
        refine za_sld C hX hbl hbA h306 dL_law_1011 ?_
        refine za_aload_n C 0 rfl rfl dL_law_1012 ?_
        refine za_iload_n C 3 rfl rfl dL_law_1013 ?_
        refine za_iconst (v := (2 : Int32)) C (by decide) dL_law_1014 ?_
        refine za_iadd C dL_law_1015 ?_
        obtain ⟨h307, hf⟩ := z_chk hf
        refine za_sld C hX hbl hbA h307 dL_law_1016 ?_
        refine za_aload_n C 0 rfl rfl dL_law_1017 ?_
        refine za_iload_n C 3 rfl rfl dL_law_1018 ?_
        refine za_iconst (v := (3 : Int32)) C (by decide) dL_law_1019 ?_
        refine za_iadd C dL_law_1020 ?_
        obtain ⟨h308, hf⟩ := z_chk hf
        refine za_sld C hX hbl hbA h308 dL_law_1021 ?_
        obtain ⟨v310, N311, hc309, hf⟩ := z_b2 hf
        refine za_callCL (n := 3) (rest := []) C (cX5_get_ok l D ck adC (xs (x3 + (1 : Int32)).toNatClampNeg) (xs (x3 + (2 : Int32)).toNatClampNeg) (xs (x3 + (3 : Int32)).toNatClampNeg) mc _ _ hc309) gL_law_X5_get rfl rfl rfl (by decide +kernel) ⟨Nat.le_trans (Nat.le_of_ble_eq_true rfl) hR1, Nat.le_trans (Nat.le_of_ble_eq_true rfl) hR2⟩ rfl rfl (Nat.le_of_ble_eq_true rfl) hcs dL_law_1022 ?_
        refine za_aload_n C 2 rfl rfl dL_law_1025 ?_
        refine za_aload_n C 0 rfl rfl dL_law_1026 ?_
        refine za_iload_n C 3 rfl rfl dL_law_1027 ?_
        refine za_iconst (v := (1 : Int32)) C (by decide) dL_law_1028 ?_
        refine za_iadd C dL_law_1029 ?_
        obtain ⟨h312, hf⟩ := z_chk hf
        refine za_sld C hX hbl hbA h312 dL_law_1030 ?_
        refine za_aload_n C 0 rfl rfl dL_law_1031 ?_
        refine za_iload_n C 3 rfl rfl dL_law_1032 ?_
        refine za_iconst (v := (2 : Int32)) C (by decide) dL_law_1033 ?_
        refine za_iadd C dL_law_1034 ?_
        obtain ⟨h313, hf⟩ := z_chk hf
        refine za_sld C hX hbl hbA h313 dL_law_1035 ?_
        refine za_aload_n C 0 rfl rfl dL_law_1036 ?_
        refine za_iload_n C 3 rfl rfl dL_law_1037 ?_
        refine za_iconst (v := (3 : Int32)) C (by decide) dL_law_1038 ?_
        refine za_iadd C dL_law_1039 ?_
        obtain ⟨h314, hf⟩ := z_chk hf
        refine za_sld C hX hbl hbA h314 dL_law_1040 ?_
        obtain ⟨v316, N317, hc315, hf⟩ := z_b2 hf
        refine za_callRL (n := 3) (rest := [.int v310]) C (cX6_get_ok l D ck adR (xs (x3 + (1 : Int32)).toNatClampNeg) (xs (x3 + (2 : Int32)).toNatClampNeg) (xs (x3 + (3 : Int32)).toNatClampNeg) mr _ _ hc315) gL_law_X6_get rfl rfl rfl (by decide +kernel) ⟨Nat.le_trans (Nat.le_of_ble_eq_true rfl) hR1, Nat.le_trans (Nat.le_of_ble_eq_true rfl) hR2⟩ rfl rfl (Nat.le_of_ble_eq_true rfl) hcs dL_law_1041 ?_
        refine za_icmp_eq C 1149 (by decide) dL_law_1044 (fun q318 => ?_) (fun q318 => ?_)
        · have hf := z_pos q318 hf
          exact za_sub [0, 1, 2, 3] rfl (j_1149 x3 N311 N317 hf)
        · have hf := z_neg q318 hf
          refine za_iconst (v := (0 : Int32)) C (by decide) dL_law_1047 ?_
          exact absurd (show (0 : Int32) = 1 from hE _ (z_inj hf)) (by decide)
      have hf := z_neg q305 hf
      by_cases q319 : v34 = (27 : Int32)
      · have hf := z_pos q319 hf
        refine za_tsIn C 1049 (27) q319 (by decide) (by decide) rfl (by decide) dL_law_33 ?_
        refine za_aload_n C 1 rfl rfl dL_law_1049 ?_
        refine za_aload_n C 0 rfl rfl dL_law_1050 ?_
        refine za_iload_n C 3 rfl rfl dL_law_1051 ?_
        refine za_iconst (v := (1 : Int32)) C (by decide) dL_law_1052 ?_
        refine za_iadd C dL_law_1053 ?_
        obtain ⟨h320, hf⟩ := z_chk hf
        refine za_sld C hX hbl hbA h320 dL_law_1054 ?_
        refine za_aload_n C 0 rfl rfl dL_law_1055 ?_
        refine za_iload_n C 3 rfl rfl dL_law_1056 ?_
        refine za_iconst (v := (2 : Int32)) C (by decide) dL_law_1057 ?_
        refine za_iadd C dL_law_1058 ?_
        obtain ⟨h321, hf⟩ := z_chk hf
        refine za_sld C hX hbl hbA h321 dL_law_1059 ?_
        refine za_aload_n C 0 rfl rfl dL_law_1060 ?_
        refine za_iload_n C 3 rfl rfl dL_law_1061 ?_
        refine za_iconst (v := (3 : Int32)) C (by decide) dL_law_1062 ?_
        refine za_iadd C dL_law_1063 ?_
        obtain ⟨h322, hf⟩ := z_chk hf
        refine za_sld C hX hbl hbA h322 dL_law_1064 ?_
        refine za_aload_n C 0 rfl rfl dL_law_1065 ?_
        refine za_iload_n C 3 rfl rfl dL_law_1066 ?_
        refine za_iconst (v := (4 : Int32)) C (by decide) dL_law_1067 ?_
        refine za_iadd C dL_law_1068 ?_
        obtain ⟨h323, hf⟩ := z_chk hf
        refine za_sld C hX hbl hbA h323 dL_law_1069 ?_
        refine za_aload_n C 0 rfl rfl dL_law_1070 ?_
        refine za_iload_n C 3 rfl rfl dL_law_1071 ?_
        refine za_iconst (v := (5 : Int32)) C (by decide) dL_law_1072 ?_
        refine za_iadd C dL_law_1073 ?_
        obtain ⟨h324, hf⟩ := z_chk hf
        refine za_sld C hX hbl hbA h324 dL_law_1074 ?_
        obtain ⟨v326, N327, hc325, hf⟩ := z_b2 hf
        refine za_callCL (n := 5) (rest := []) C (cX5_move_ok l D ck adC (xs (x3 + (1 : Int32)).toNatClampNeg) (xs (x3 + (2 : Int32)).toNatClampNeg) (xs (x3 + (3 : Int32)).toNatClampNeg) (xs (x3 + (4 : Int32)).toNatClampNeg) (xs (x3 + (5 : Int32)).toNatClampNeg) mc _ _ hc325) gL_law_X5_move rfl rfl rfl (by decide +kernel) ⟨Nat.le_trans (Nat.le_of_ble_eq_true rfl) hR1, Nat.le_trans (Nat.le_of_ble_eq_true rfl) hR2⟩ rfl rfl (Nat.le_of_ble_eq_true rfl) hcs dL_law_1075 ?_
        refine za_aload_n C 2 rfl rfl dL_law_1078 ?_
        refine za_aload_n C 0 rfl rfl dL_law_1079 ?_
        refine za_iload_n C 3 rfl rfl dL_law_1080 ?_
        refine za_iconst (v := (1 : Int32)) C (by decide) dL_law_1081 ?_
        refine za_iadd C dL_law_1082 ?_
        obtain ⟨h328, hf⟩ := z_chk hf
        refine za_sld C hX hbl hbA h328 dL_law_1083 ?_
        refine za_aload_n C 0 rfl rfl dL_law_1084 ?_
        refine za_iload_n C 3 rfl rfl dL_law_1085 ?_
        refine za_iconst (v := (2 : Int32)) C (by decide) dL_law_1086 ?_
        refine za_iadd C dL_law_1087 ?_
        obtain ⟨h329, hf⟩ := z_chk hf
        refine za_sld C hX hbl hbA h329 dL_law_1088 ?_
        refine za_aload_n C 0 rfl rfl dL_law_1089 ?_
        refine za_iload_n C 3 rfl rfl dL_law_1090 ?_
        refine za_iconst (v := (3 : Int32)) C (by decide) dL_law_1091 ?_
        refine za_iadd C dL_law_1092 ?_
        obtain ⟨h330, hf⟩ := z_chk hf
        refine za_sld C hX hbl hbA h330 dL_law_1093 ?_
        refine za_aload_n C 0 rfl rfl dL_law_1094 ?_
        refine za_iload_n C 3 rfl rfl dL_law_1095 ?_
        refine za_iconst (v := (4 : Int32)) C (by decide) dL_law_1096 ?_
        refine za_iadd C dL_law_1097 ?_
        obtain ⟨h331, hf⟩ := z_chk hf
        refine za_sld C hX hbl hbA h331 dL_law_1098 ?_
        refine za_aload_n C 0 rfl rfl dL_law_1099 ?_
        refine za_iload_n C 3 rfl rfl dL_law_1100 ?_
        refine za_iconst (v := (5 : Int32)) C (by decide) dL_law_1101 ?_
        refine za_iadd C dL_law_1102 ?_
        obtain ⟨h332, hf⟩ := z_chk hf
        refine za_sld C hX hbl hbA h332 dL_law_1103 ?_
        obtain ⟨v334, N335, hc333, hf⟩ := z_b2 hf
        refine za_callRL (n := 5) (rest := [.int v326]) C (cX6_move_ok l D ck adR n (xs (x3 + (1 : Int32)).toNatClampNeg) (xs (x3 + (2 : Int32)).toNatClampNeg) (xs (x3 + (3 : Int32)).toNatClampNeg) (xs (x3 + (4 : Int32)).toNatClampNeg) (xs (x3 + (5 : Int32)).toNatClampNeg) mr _ _ hc333) gL_law_X6_move rfl rfl rfl (by decide +kernel) ⟨Nat.le_trans (Nat.le_of_ble_eq_true rfl) hR1, Nat.le_trans (Nat.le_of_ble_eq_true rfl) hR2⟩ rfl rfl (Nat.le_of_ble_eq_true rfl) hcs dL_law_1104 ?_
        refine za_icmp_eq C 1149 (by decide) dL_law_1107 (fun q336 => ?_) (fun q336 => ?_)
        · have hf := z_pos q336 hf
          exact za_sub [0, 1, 2, 3] rfl (j_1149 x3 N327 N335 hf)
        · have hf := z_neg q336 hf
          refine za_iconst (v := (0 : Int32)) C (by decide) dL_law_1110 ?_
          exact absurd (show (0 : Int32) = 1 from hE _ (z_inj hf)) (by decide)
      have hf := z_neg q319 hf
      by_cases q337 : v34 = (28 : Int32)
      · have hf := z_pos q337 hf
        refine za_tsIn C 1112 (28) q337 (by decide) (by decide) rfl (by decide) dL_law_33 ?_
        refine za_aload_n C 1 rfl rfl dL_law_1112 ?_
        refine za_aload_n C 0 rfl rfl dL_law_1113 ?_
        refine za_iload_n C 3 rfl rfl dL_law_1114 ?_
        refine za_iconst (v := (1 : Int32)) C (by decide) dL_law_1115 ?_
        refine za_iadd C dL_law_1116 ?_
        obtain ⟨h338, hf⟩ := z_chk hf
        refine za_sld C hX hbl hbA h338 dL_law_1117 ?_
        obtain ⟨v340, hc339, hf⟩ := z_bind hf
        refine za_callCL (n := 1) (rest := []) C (cX5_count_ok l D ck adC n (xs (x3 + (1 : Int32)).toNatClampNeg) mc _ hc339) gL_law_X5_count rfl rfl rfl (by decide +kernel) ⟨Nat.le_trans (Nat.le_of_ble_eq_true rfl) hR1, Nat.le_trans (Nat.le_of_ble_eq_true rfl) hR2⟩ rfl rfl (Nat.le_of_ble_eq_true rfl) hcs dL_law_1118 ?_
        refine za_aload_n C 2 rfl rfl dL_law_1121 ?_
        refine za_aload_n C 0 rfl rfl dL_law_1122 ?_
        refine za_iload_n C 3 rfl rfl dL_law_1123 ?_
        refine za_iconst (v := (1 : Int32)) C (by decide) dL_law_1124 ?_
        refine za_iadd C dL_law_1125 ?_
        obtain ⟨h341, hf⟩ := z_chk hf
        refine za_sld C hX hbl hbA h341 dL_law_1126 ?_
        obtain ⟨v343, hc342, hf⟩ := z_bind hf
        refine za_callRL (n := 1) (rest := [.int v340]) C (cX6_count_ok l D ck adR n (xs (x3 + (1 : Int32)).toNatClampNeg) mr _ hc342) gL_law_X6_count rfl rfl rfl (by decide +kernel) ⟨Nat.le_trans (Nat.le_of_ble_eq_true rfl) hR1, Nat.le_trans (Nat.le_of_ble_eq_true rfl) hR2⟩ rfl rfl (Nat.le_of_ble_eq_true rfl) hcs dL_law_1127 ?_
        refine za_icmp_eq C 1149 (by decide) dL_law_1130 (fun q344 => ?_) (fun q344 => ?_)
        · have hf := z_pos q344 hf
          exact za_sub [0, 1, 2, 3] rfl (j_1149 x3 mc mr hf)
        · have hf := z_neg q344 hf
          refine za_iconst (v := (0 : Int32)) C (by decide) dL_law_1133 ?_
          exact absurd (show (0 : Int32) = 1 from hE _ (z_inj hf)) (by decide)
      have hf := z_neg q337 hf
      by_cases q345 : v34 = (29 : Int32)
      · have hf := z_pos q345 hf
        refine za_tsIn C 1135 (29) q345 (by decide) (by decide) rfl (by decide) dL_law_33 ?_
        refine za_aload_n C 1 rfl rfl dL_law_1135 ?_
        obtain ⟨v347, N348, hc346, hf⟩ := z_b2 hf
        refine za_callCL (n := 0) (rest := []) C (cX5_digest_ok l D ck adC n mc _ _ hc346) gL_law_X5_digest rfl rfl rfl (by decide +kernel) ⟨Nat.le_trans (Nat.le_of_ble_eq_true rfl) hR1, Nat.le_trans (Nat.le_of_ble_eq_true rfl) hR2⟩ rfl rfl (Nat.le_of_ble_eq_true rfl) hcs dL_law_1136 ?_
        refine za_aload_n C 2 rfl rfl dL_law_1139 ?_
        obtain ⟨v350, N351, hc349, hf⟩ := z_b2 hf
        refine za_callRL (n := 0) (rest := [.long v347]) C (cX6_digest_ok l D ck adR n mr _ _ hc349) gL_law_X6_digest rfl rfl rfl (by decide +kernel) ⟨Nat.le_trans (Nat.le_of_ble_eq_true rfl) hR1, Nat.le_trans (Nat.le_of_ble_eq_true rfl) hR2⟩ rfl rfl (Nat.le_of_ble_eq_true rfl) hcs dL_law_1140 ?_
        refine za_lcmp C dL_law_1143 ?_
        refine za_if_eq C 1149 (by decide) dL_law_1144 (fun q352 => ?_) (fun q352 => ?_)
        · have hf := z_pos q352 hf
          exact za_sub [0, 1, 2, 3] rfl (j_1149 x3 N348 N351 hf)
        · have hf := z_neg q352 hf
          refine za_iconst (v := (0 : Int32)) C (by decide) dL_law_1147 ?_
          exact absurd (show (0 : Int32) = 1 from hE _ (z_inj hf)) (by decide)
      have hf := z_neg q345 hf
      refine za_tsOut C 1149 (by have u0 := lv_neT (a := 0) q35 (by decide); have u1 := lv_neT (a := 1) q49 (by decide); have u2 := lv_neT (a := 2) q61 (by decide); have u3 := lv_neT (a := 3) q65 (by decide); have u4 := lv_neT (a := 4) q77 (by decide); have u5 := lv_neT (a := 5) q87 (by decide); have u6 := lv_neT (a := 6) q91 (by decide); have u7 := lv_neT (a := 7) q95 (by decide); have u8 := lv_neT (a := 8) q105 (by decide); have u9 := lv_neT (a := 9) q117 (by decide); have u10 := lv_neT (a := 10) q131 (by decide); have u11 := lv_neT (a := 11) q145 (by decide); have u12 := lv_neT (a := 12) q165 (by decide); have u13 := lv_neT (a := 13) q175 (by decide); have u14 := lv_neT (a := 14) q183 (by decide); have u15 := lv_neT (a := 15) q193 (by decide); have u16 := lv_neT (a := 16) q203 (by decide); have u17 := lv_neT (a := 17) q215 (by decide); have u18 := lv_neT (a := 18) q225 (by decide); have u19 := lv_neT (a := 19) q233 (by decide); have u20 := lv_neT (a := 20) q241 (by decide); have u21 := lv_neT (a := 21) q251 (by decide); have u22 := lv_neT (a := 22) q257 (by decide); have u23 := lv_neT (a := 23) q265 (by decide); have u24 := lv_neT (a := 24) q279 (by decide); have u25 := lv_neT (a := 25) q289 (by decide); have u26 := lv_neT (a := 26) q305 (by decide); have u27 := lv_neT (a := 27) q319 (by decide); have u28 := lv_neT (a := 28) q337 (by decide); have u29 := lv_neT (a := 29) q345 (by decide); omega) (by decide) dL_law_33 ?_
      exact za_sub [0, 1, 2, 3] rfl (j_1149 x3 mc mr hf)
  · cases q9 with
    | inl q => exact hend _ _ _
    | inr x =>
      have hf := z_inr hf
      exact Option.some.inj hf
