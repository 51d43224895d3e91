/-! the law's loop, case by case -/
def scA (G : GG) (i : Int) : Int := (G.2.2.2 i.toNat).toInt
theorem scA_in {G : GG} {i : Int} : inR (scA G i) := ⟨Int32.le_toInt _, Int32.toInt_lt _⟩
abbrev VL (G : GG) (p : Program) (s : State) (m : MethodId) (args : Array Value) (meth : Method) (c : Code) : Prop := VC G p room_1 s m args meth c RL cL_law 7 2000
theorem ml_L_87 : Cond.methodLink RL 87 yX11_feed ∈ tblG := tin 563 (by decide +kernel) (by decide)
theorem ml_L_91 : Cond.methodLink RL 91 yX12_feed ∈ tblG := tin 1583 (by decide +kernel) (by decide)
theorem ml_L_92 : Cond.methodLink RL 92 yL_link ∈ tblG := tin 795 (by decide +kernel) (by decide)
theorem ml_L_97 : Cond.methodLink RL 97 yX12_link ∈ tblG := tin 1587 (by decide +kernel) (by decide)
theorem ml_L_98 : Cond.methodLink RL 98 yX12_thrown ∈ tblG := tin 1579 (by decide +kernel) (by decide)
theorem ml_L_102 : Cond.methodLink RL 102 yX11_fault ∈ tblG := tin 571 (by decide +kernel) (by decide)
theorem ml_L_105 : Cond.methodLink RL 105 yX12_fault ∈ tblG := tin 1673 (by decide +kernel) (by decide)
theorem ml_L_106 : Cond.methodLink RL 106 yL_count ∈ tblG := tin 1016 (by decide +kernel) (by decide)
theorem ml_L_108 : Cond.methodLink RL 108 yX12_count ∈ tblG := tin 1677 (by decide +kernel) (by decide)
theorem ml_L_109 : Cond.methodLink RL 109 yL_of ∈ tblG := tin 1052 (by decide +kernel) (by decide)
theorem ml_L_112 : Cond.methodLink RL 112 yX12_of ∈ tblG := tin 1697 (by decide +kernel) (by decide)
theorem ml_L_113 : Cond.methodLink RL 113 yL_curve ∈ tblG := tin 1071 (by decide +kernel) (by decide)
theorem ml_L_116 : Cond.methodLink RL 116 yX12_curve ∈ tblG := tin 1720 (by decide +kernel) (by decide)
theorem ml_L_117 : Cond.methodLink RL 117 yL_packet ∈ tblG := tin 1078 (by decide +kernel) (by decide)
theorem ml_L_119 : Cond.methodLink RL 119 yX12_packet ∈ tblG := tin 1731 (by decide +kernel) (by decide)
theorem ml_L_120 : Cond.methodLink RL 120 yL_due ∈ tblG := tin 1086 (by decide +kernel) (by decide)
theorem ml_L_122 : Cond.methodLink RL 122 yX12_due ∈ tblG := tin 1735 (by decide +kernel) (by decide)
theorem ml_L_123 : Cond.methodLink RL 123 yX11_come ∈ tblG := tin 575 (by decide +kernel) (by decide)
theorem ml_L_126 : Cond.methodLink RL 126 yX12_come ∈ tblG := tin 1769 (by decide +kernel) (by decide)
theorem ml_L_127 : Cond.methodLink RL 127 yX11_units ∈ tblG := tin 629 (by decide +kernel) (by decide)
theorem ml_L_130 : Cond.methodLink RL 130 yX12_units ∈ tblG := tin 1805 (by decide +kernel) (by decide)
theorem ml_L_131 : Cond.methodLink RL 131 yX11_change ∈ tblG := tin 688 (by decide +kernel) (by decide)
theorem ml_L_134 : Cond.methodLink RL 134 yX12_change ∈ tblG := tin 1837 (by decide +kernel) (by decide)
theorem ml_L_135 : Cond.methodLink RL 135 yX11_empty ∈ tblG := tin 716 (by decide +kernel) (by decide)
theorem ml_L_138 : Cond.methodLink RL 138 yX12_empty ∈ tblG := tin 1849 (by decide +kernel) (by decide)
theorem ml_L_139 : Cond.methodLink RL 139 yX11_lift ∈ tblG := tin 724 (by decide +kernel) (by decide)
theorem ml_L_143 : Cond.methodLink RL 143 yX12_lift ∈ tblG := tin 1857 (by decide +kernel) (by decide)
theorem ml_L_144 : Cond.methodLink RL 144 yX11_stop ∈ tblG := tin 736 (by decide +kernel) (by decide)
theorem ml_L_147 : Cond.methodLink RL 147 yX12_stop ∈ tblG := tin 1861 (by decide +kernel) (by decide)
theorem ml_L_148 : Cond.methodLink RL 148 yX11_undo ∈ tblG := tin 748 (by decide +kernel) (by decide)
theorem ml_L_151 : Cond.methodLink RL 151 yX12_undo ∈ tblG := tin 1865 (by decide +kernel) (by decide)
theorem ml_L_152 : Cond.methodLink RL 152 yL_together ∈ tblG := tin 1099 (by decide +kernel) (by decide)
theorem ml_L_154 : Cond.methodLink RL 154 yX12_together ∈ tblG := tin 1869 (by decide +kernel) (by decide)
theorem ml_L_155 : Cond.methodLink RL 155 yL_toGrant ∈ tblG := tin 1126 (by decide +kernel) (by decide)
theorem ml_L_157 : Cond.methodLink RL 157 yX12_toGrant ∈ tblG := tin 1884 (by decide +kernel) (by decide)
theorem ml_L_158 : Cond.methodLink RL 158 yL_bound ∈ tblG := tin 1137 (by decide +kernel) (by decide)
theorem ml_L_160 : Cond.methodLink RL 160 yX12_bound ∈ tblG := tin 1888 (by decide +kernel) (by decide)
theorem ml_L_161 : Cond.methodLink RL 161 yL_then ∈ tblG := tin 1151 (by decide +kernel) (by decide)
theorem ml_L_163 : Cond.methodLink RL 163 yX12_then ∈ tblG := tin 1892 (by decide +kernel) (by decide)
theorem ml_L_164 : Cond.methodLink RL 164 yL_next ∈ tblG := tin 1166 (by decide +kernel) (by decide)
theorem ml_L_166 : Cond.methodLink RL 166 yX12_next ∈ tblG := tin 1907 (by decide +kernel) (by decide)
theorem ml_L_167 : Cond.methodLink RL 167 yL_waits ∈ tblG := tin 1178 (by decide +kernel) (by decide)
theorem ml_L_169 : Cond.methodLink RL 169 yX12_waits ∈ tblG := tin 1911 (by decide +kernel) (by decide)
theorem ml_L_170 : Cond.methodLink RL 170 yL_longest ∈ tblG := tin 1197 (by decide +kernel) (by decide)
theorem ml_L_172 : Cond.methodLink RL 172 yX12_longest ∈ tblG := tin 1923 (by decide +kernel) (by decide)
theorem ml_L_173 : Cond.methodLink RL 173 yL_toShare ∈ tblG := tin 1212 (by decide +kernel) (by decide)
theorem ml_L_175 : Cond.methodLink RL 175 yX12_toShare ∈ tblG := tin 1927 (by decide +kernel) (by decide)
theorem ml_L_176 : Cond.methodLink RL 176 yL_toCap ∈ tblG := tin 1224 (by decide +kernel) (by decide)
theorem ml_L_178 : Cond.methodLink RL 178 yX12_toCap ∈ tblG := tin 1931 (by decide +kernel) (by decide)
theorem ml_L_179 : Cond.methodLink RL 179 yL_blocked ∈ tblG := tin 1235 (by decide +kernel) (by decide)
theorem ml_L_181 : Cond.methodLink RL 181 yX12_blocked ∈ tblG := tin 1935 (by decide +kernel) (by decide)
theorem ml_L_182 : Cond.methodLink RL 182 yL_spread ∈ tblG := tin 1246 (by decide +kernel) (by decide)
theorem ml_L_184 : Cond.methodLink RL 184 yX12_spread ∈ tblG := tin 1939 (by decide +kernel) (by decide)
theorem ml_L_185 : Cond.methodLink RL 185 yX11_note ∈ tblG := tin 760 (by decide +kernel) (by decide)
theorem ml_L_188 : Cond.methodLink RL 188 yX12_note ∈ tblG := tin 1947 (by decide +kernel) (by decide)
theorem ml_L_189 : Cond.methodLink RL 189 yL_other ∈ tblG := tin 1261 (by decide +kernel) (by decide)
theorem ml_L_191 : Cond.methodLink RL 191 yX12_other ∈ tblG := tin 1955 (by decide +kernel) (by decide)
theorem ml_L_192 : Cond.methodLink RL 192 yL_look ∈ tblG := tin 1291 (by decide +kernel) (by decide)
theorem ml_L_194 : Cond.methodLink RL 194 yX12_look ∈ tblG := tin 1971 (by decide +kernel) (by decide)
theorem ml_L_195 : Cond.methodLink RL 195 yX11_forget ∈ tblG := tin 768 (by decide +kernel) (by decide)
theorem ml_L_198 : Cond.methodLink RL 198 yX12_forget ∈ tblG := tin 1951 (by decide +kernel) (by decide)
theorem ml_L_199 : Cond.methodLink RL 199 yL_storms ∈ tblG := tin 1306 (by decide +kernel) (by decide)
theorem ml_L_202 : Cond.methodLink RL 202 yX12_storms ∈ tblG := tin 1975 (by decide +kernel) (by decide)
theorem ml_L_203 : Cond.methodLink RL 203 yL_years ∈ tblG := tin 1324 (by decide +kernel) (by decide)
theorem ml_L_205 : Cond.methodLink RL 205 yX12_years ∈ tblG := tin 1979 (by decide +kernel) (by decide)
theorem ml_L_206 : Cond.methodLink RL 206 yL_told ∈ tblG := tin 1356 (by decide +kernel) (by decide)
theorem ml_L_208 : Cond.methodLink RL 208 yX12_told ∈ tblG := tin 1992 (by decide +kernel) (by decide)
theorem ml_L_209 : Cond.methodLink RL 209 yX11_image ∈ tblG := tin 776 (by decide +kernel) (by decide)
theorem ml_L_212 : Cond.methodLink RL 212 yX12_image ∈ tblG := tin 2007 (by decide +kernel) (by decide)
theorem ml_L_213 : Cond.methodLink RL 213 yX11_restore ∈ tblG := tin 791 (by decide +kernel) (by decide)
theorem ml_L_217 : Cond.methodLink RL 217 yX12_restore ∈ tblG := tin 2011 (by decide +kernel) (by decide)
theorem cs_0 {G : GG} {p : Program} {l : Launch} {e : Jvm.Env} {s : State} {m : MethodId} {args : Array Value} {below : List Frame} {meth : Method} {c : Code} {Q : State → Prop} {i K : Int} {h : HP} {n : Nat} (hlf : l.stackTraces = false) (hc : VL G p s m args meth c) (hi : 0 ≤ i) (hL : i + 5 < (G.2.2.1 11 : Nat)) (hn : n + 4 ≤ 90000 + 4 * 520) (hK : 0 ≤ K) (iv : IV h K) (kk : ∀ h' n', IV h' (K + 1) → n' ≤ n + 4 → V G p l e room_1 s m args below meth c Q 7 2109 [(3, 0), (21, 0), (22, 7), (87, 8), (0, i), (1, 0), (1, 0)] [] h' n') : V G p l e room_1 s m args below meth c Q 7 196 [(3, 0), (21, 0), (22, 7), (87, 8), (0, i), (1, 0), (1, 0)] [] h n := by
  have hL7 : (G.2.2.1 11 : Int) ≤ 3072 := by have := hc.2.2.2.2.2.1.2.2.2.2.2.1; omega
  refine V.aload_n (t := 11) hc dL_law_196 rfl rfl ?_
  refine V.aloadC_n hc dL_law_197 rfl rfl ?_
  refine V.iload hc dL_law_198 rfl ?_
  refine V.iconst hc dL_law_200 ?_
  refine V.iadd hc dL_law_201 ?_
  refine V.sld hc (by omega) dL_law_202 ?_
  refine V.aloadC_n hc dL_law_203 rfl rfl ?_
  refine V.iload hc dL_law_204 rfl ?_
  refine V.iconst hc dL_law_206 ?_
  refine V.iadd hc dL_law_207 ?_
  refine V.sld hc (by omega) dL_law_208 ?_
  refine V.aloadC_n hc dL_law_209 rfl rfl ?_
  refine V.iload hc dL_law_210 rfl ?_
  refine V.iconst hc dL_law_212 ?_
  refine V.iadd hc dL_law_213 ?_
  refine V.sld hc (by omega) dL_law_214 ?_
  refine V.aloadC_n hc dL_law_215 rfl rfl ?_
  refine V.iload hc dL_law_216 rfl ?_
  refine V.iconst hc dL_law_218 ?_
  refine V.iadd hc dL_law_219 ?_
  refine V.sld hc (by omega) dL_law_220 ?_
  refine V.aloadC_n hc dL_law_221 rfl rfl ?_
  refine V.iload hc dL_law_222 rfl ?_
  refine V.iconst hc dL_law_224 ?_
  refine V.iadd hc dL_law_225 ?_
  refine V.sld hc (by omega) dL_law_226 ?_
  refine V.callVI hc (qX11_feed G l _ _ _ _ _ _ _ _ (sp_feed iv (fun _ q => q))) mo_X11_feed ml_L_87 (by rfl) rfl rfl (as := [(0, scA G (i + 1)), (0, scA G (i + 2)), (0, scA G (i + 3)), (0, scA G (i + 4)), (0, scA G (i + 5))]) rfl rfl rfl rfl rfl ⟨by show n ≤ 601024; omega, by show 6 * n ≤ 7293034; omega⟩ dL_law_227 (fun x1 h1 hw => ?_)
  refine V.aload_n (t := 12) hc dL_law_230 rfl rfl ?_
  refine V.aloadC_n hc dL_law_231 rfl rfl ?_
  refine V.iload hc dL_law_232 rfl ?_
  refine V.iconst hc dL_law_234 ?_
  refine V.iadd hc dL_law_235 ?_
  refine V.sld hc (by omega) dL_law_236 ?_
  refine V.aloadC_n hc dL_law_237 rfl rfl ?_
  refine V.iload hc dL_law_238 rfl ?_
  refine V.iconst hc dL_law_240 ?_
  refine V.iadd hc dL_law_241 ?_
  refine V.sld hc (by omega) dL_law_242 ?_
  refine V.aloadC_n hc dL_law_243 rfl rfl ?_
  refine V.iload hc dL_law_244 rfl ?_
  refine V.iconst hc dL_law_246 ?_
  refine V.iadd hc dL_law_247 ?_
  refine V.sld hc (by omega) dL_law_248 ?_
  refine V.aloadC_n hc dL_law_249 rfl rfl ?_
  refine V.iload hc dL_law_250 rfl ?_
  refine V.iconst hc dL_law_252 ?_
  refine V.iadd hc dL_law_253 ?_
  refine V.sld hc (by omega) dL_law_254 ?_
  refine V.aloadC_n hc dL_law_255 rfl rfl ?_
  refine V.iload hc dL_law_256 rfl ?_
  refine V.iconst hc dL_law_258 ?_
  refine V.iadd hc dL_law_259 ?_
  refine V.sld hc (by omega) dL_law_260 ?_
  refine V.callVI hc (qX12_feed G l _ _ _ _ _ _ _ _ hw) mo_X12_feed ml_L_91 (by rfl) rfl rfl (as := [(0, scA G (i + 1)), (0, scA G (i + 2)), (0, scA G (i + 3)), (0, scA G (i + 4)), (0, scA G (i + 5))]) rfl rfl rfl rfl rfl ⟨by show n ≤ 601024; omega, by show 6 * (n) ≤ 7293034; omega⟩ dL_law_261 (fun x2 h2 hb => ?_)
  refine V.icmp_eqT hc (tgt := 2109) dL_law_264 (by decide) hb.1 ?_
  exact kk h2 n hb.2 (by omega)
theorem cs_1 {G : GG} {p : Program} {l : Launch} {e : Jvm.Env} {s : State} {m : MethodId} {args : Array Value} {below : List Frame} {meth : Method} {c : Code} {Q : State → Prop} {i K : Int} {h : HP} {n : Nat} (hlf : l.stackTraces = false) (hc : VL G p s m args meth c) (hi : 0 ≤ i) (hL : i + 5 < (G.2.2.1 11 : Nat)) (hn : n + 4 ≤ 90000 + 4 * 520) (hK : 0 ≤ K) (iv : IV h K) (kk : ∀ h' n', IV h' (K + 1) → n' ≤ n + 4 → V G p l e room_1 s m args below meth c Q 7 2109 [(3, 0), (21, 0), (22, 7), (87, 8), (0, i), (1, 0), (1, 0)] [] h' n') : V G p l e room_1 s m args below meth c Q 7 269 [(3, 0), (21, 0), (22, 7), (87, 8), (0, i), (1, 0), (1, 0)] [] h n := by
  have hL7 : (G.2.2.1 11 : Int) ≤ 3072 := by have := hc.2.2.2.2.2.1.2.2.2.2.2.1; omega
  refine V.aload_n (t := 11) hc dL_law_269 rfl rfl ?_
  refine V.aloadC_n hc dL_law_270 rfl rfl ?_
  refine V.iload hc dL_law_271 rfl ?_
  refine V.iconst hc dL_law_273 ?_
  refine V.iadd hc dL_law_274 ?_
  refine V.sld hc (by omega) dL_law_275 ?_
  refine V.aload_n (t := 77) hc dL_law_276 rfl rfl ?_
  refine V.callSw hc (qL_link G l hlf (scA G (i + 1)) h (fun kk g => wX12_link 7 (scA G (i + 1)) g (Bk (fun g => IV g (K + 1)) kk)) (sq_link iv hK scA_in (fun _ q => q))) mw_L_link ml_L_92 (as := [(21, 0), (0, scA G (i + 1)), (87, 8)]) rfl rfl rfl rfl rfl ⟨by show n + 1 ≤ 601024; omega, by show 6 * n + 6 * 1 ≤ 7293034; omega⟩ dL_law_277 (fun x1 h1 hw => ?_)
  obtain ⟨rx, hw⟩ := hw
  refine V.istore hc dL_law_280 rfl (lo' := [(3, 0), (21, 0), (22, 7), (87, 8), (0, i), (0, x1), (1, 0)]) rfl ?_
  refine V.aload_n (t := 12) hc dL_law_282 rfl rfl ?_
  refine V.aloadC_n hc dL_law_283 rfl rfl ?_
  refine V.iload hc dL_law_284 rfl ?_
  refine V.iconst hc dL_law_286 ?_
  refine V.iadd hc dL_law_287 ?_
  refine V.sld hc (by omega) dL_law_288 ?_
  refine V.callVI hc (qX12_link G l _ _ _ _ hw) mo_X12_link ml_L_97 (by rfl) rfl rfl (as := [(0, scA G (i + 1))]) rfl rfl rfl rfl rfl ⟨by show n + 1 ≤ 601024; omega, by show 6 * (n + 1) ≤ 7293034; omega⟩ dL_law_289 (fun x2 h2 hb => ?_)
  refine V.istore hc dL_law_292 rfl (lo' := [(3, 0), (21, 0), (22, 7), (87, 8), (0, i), (0, x1), (0, x2)]) rfl ?_
  refine V.aload_n (t := 12) hc dL_law_294 rfl rfl ?_
  refine V.callVI hc (P := fun x g => x = h2 12 7 1 ∧ g = h2) (qX12_thrown G l _ _ _ ⟨rfl, rfl⟩) mo_X12_thrown ml_L_98 (by rfl) rfl rfl (as := []) rfl rfl rfl rfl rfl ⟨by show n + 1 ≤ 601024; omega, by show 6 * (n + 1) ≤ 7293034; omega⟩ dL_law_295 (fun x3 h3 he => ?_)
  obtain ⟨e3, e4⟩ := he
  subst e4
  refine V.iload hc dL_law_298 rfl ?_
  obtain ⟨b1, b2, b3⟩ := hb
  refine V.icmp_eqT hc (tgt := 305) dL_law_300 (by decide) (e3.trans b1) ?_
  refine V.iload hc dL_law_305 rfl ?_
  refine V.if_ne hc (tgt := 322) dL_law_307 (by decide) (by unfold inR; omega) (fun _ => ?_) (fun z => ?_)
  · refine V.goto hc (tgt := 2109) dL_law_322 (by decide) ?_
    exact V.drop (lo' := [(3, 0), (21, 0), (22, 7), (87, 8), (0, i), (1, 0), (1, 0)]) ⟨Or.inr rfl, Or.inr rfl, Or.inr rfl, Or.inr rfl, Or.inr rfl, Or.inl rfl, Or.inl rfl, trivial⟩ (kk h3 (n + 1) b3 (by omega))
  · refine V.aload_n (t := 77) hc dL_law_310 rfl rfl ?_
    refine V.iconst hc dL_law_311 ?_
    refine V.jld hc (by omega) dL_law_312 ?_
    refine V.iload hc dL_law_313 rfl ?_
    refine V.i2lN hc dL_law_315 ?_
    refine V.lcmpT hc (b2 (by omega)) dL_law_316 ?_
    refine V.if_eq hc (tgt := 322) dL_law_317 (by decide) inR_0 (fun _ => ?_) (fun z => absurd rfl z)
    refine V.goto hc (tgt := 2109) dL_law_322 (by decide) ?_
    exact V.drop (lo' := [(3, 0), (21, 0), (22, 7), (87, 8), (0, i), (1, 0), (1, 0)]) ⟨Or.inr rfl, Or.inr rfl, Or.inr rfl, Or.inr rfl, Or.inr rfl, Or.inl rfl, Or.inl rfl, trivial⟩ (kk h3 (n + 1) b3 (by omega))
theorem cs_2 {G : GG} {p : Program} {l : Launch} {e : Jvm.Env} {s : State} {m : MethodId} {args : Array Value} {below : List Frame} {meth : Method} {c : Code} {Q : State → Prop} {i K : Int} {h : HP} {n : Nat} (hlf : l.stackTraces = false) (hc : VL G p s m args meth c) (hi : 0 ≤ i) (hL : i + 5 < (G.2.2.1 11 : Nat)) (hn : n + 4 ≤ 90000 + 4 * 520) (hK : 0 ≤ K) (iv : IV h K) (kk : ∀ h' n', IV h' (K + 1) → n' ≤ n + 4 → V G p l e room_1 s m args below meth c Q 7 2109 [(3, 0), (21, 0), (22, 7), (87, 8), (0, i), (1, 0), (1, 0)] [] h' n') : V G p l e room_1 s m args below meth c Q 7 325 [(3, 0), (21, 0), (22, 7), (87, 8), (0, i), (1, 0), (1, 0)] [] h n := by
  have hL7 : (G.2.2.1 11 : Int) ≤ 3072 := by have := hc.2.2.2.2.2.1.2.2.2.2.2.1; omega
  refine V.aload_n (t := 11) hc dL_law_325 rfl rfl ?_
  refine V.callVI hc (qX11_fault G l _ _ _ (sp_fault iv  (fun _ q => q))) mo_X11_fault ml_L_102 (by rfl) rfl rfl (as := []) rfl rfl rfl rfl rfl ⟨by show n ≤ 601024; omega, by show 6 * n ≤ 7293034; omega⟩ dL_law_326 (fun x1 h1 hw => ?_)
  refine V.aload_n (t := 12) hc dL_law_329 rfl rfl ?_
  refine V.callVI hc (qX12_fault G l _ _ _ hw) mo_X12_fault ml_L_105 (by rfl) rfl rfl (as := []) rfl rfl rfl rfl rfl ⟨by show n ≤ 601024; omega, by show 6 * (n) ≤ 7293034; omega⟩ dL_law_330 (fun x2 h2 hb => ?_)
  refine V.icmp_eqT hc (tgt := 2109) dL_law_333 (by decide) hb.1 ?_
  exact kk h2 n hb.2 (by omega)
theorem cs_3 {G : GG} {p : Program} {l : Launch} {e : Jvm.Env} {s : State} {m : MethodId} {args : Array Value} {below : List Frame} {meth : Method} {c : Code} {Q : State → Prop} {i K : Int} {h : HP} {n : Nat} (hlf : l.stackTraces = false) (hc : VL G p s m args meth c) (hi : 0 ≤ i) (hL : i + 5 < (G.2.2.1 11 : Nat)) (hn : n + 4 ≤ 90000 + 4 * 520) (hK : 0 ≤ K) (iv : IV h K) (kk : ∀ h' n', IV h' (K + 1) → n' ≤ n + 4 → V G p l e room_1 s m args below meth c Q 7 2109 [(3, 0), (21, 0), (22, 7), (87, 8), (0, i), (1, 0), (1, 0)] [] h' n') : V G p l e room_1 s m args below meth c Q 7 338 [(3, 0), (21, 0), (22, 7), (87, 8), (0, i), (1, 0), (1, 0)] [] h n := by
  have hL7 : (G.2.2.1 11 : Int) ≤ 3072 := by have := hc.2.2.2.2.2.1.2.2.2.2.2.1; omega
  refine V.aload_n (t := 11) hc dL_law_338 rfl rfl ?_
  refine V.aloadC_n hc dL_law_339 rfl rfl ?_
  refine V.iload hc dL_law_340 rfl ?_
  refine V.iconst hc dL_law_342 ?_
  refine V.iadd hc dL_law_343 ?_
  refine V.sld hc (by omega) dL_law_344 ?_
  refine V.aload_n (t := 77) hc dL_law_345 rfl rfl ?_
  refine V.callSw hc (qL_count G l hlf (scA G (i + 1)) h (fun kk g => wX12_count 7 (scA G (i + 1)) g (Bk (fun g => IV g (K + 1)) kk)) (sq_count iv scA_in (fun _ q => q))) mw_L_count ml_L_106 (as := [(21, 0), (0, scA G (i + 1)), (87, 8)]) rfl rfl rfl rfl rfl ⟨by show n + 1 ≤ 601024; omega, by show 6 * n + 6 * 1 ≤ 7293034; omega⟩ dL_law_346 (fun x1 h1 hw => ?_)
  obtain ⟨rx, hw⟩ := hw
  refine V.istore hc dL_law_349 rfl (lo' := [(3, 0), (21, 0), (22, 7), (87, 8), (0, i), (0, x1), (1, 0)]) rfl ?_
  refine V.aload_n (t := 12) hc dL_law_351 rfl rfl ?_
  refine V.aloadC_n hc dL_law_352 rfl rfl ?_
  refine V.iload hc dL_law_353 rfl ?_
  refine V.iconst hc dL_law_355 ?_
  refine V.iadd hc dL_law_356 ?_
  refine V.sld hc (by omega) dL_law_357 ?_
  refine V.callVI hc (qX12_count G l _ _ _ _ hw) mo_X12_count ml_L_108 (by rfl) rfl rfl (as := [(0, scA G (i + 1))]) rfl rfl rfl rfl rfl ⟨by show n + 1 ≤ 601024; omega, by show 6 * (n + 1) ≤ 7293034; omega⟩ dL_law_358 (fun x2 h2 hb => ?_)
  refine V.istore hc dL_law_361 rfl (lo' := [(3, 0), (21, 0), (22, 7), (87, 8), (0, i), (0, x1), (0, x2)]) rfl ?_
  refine V.aload_n (t := 12) hc dL_law_363 rfl rfl ?_
  refine V.callVI hc (P := fun x g => x = h2 12 7 1 ∧ g = h2) (qX12_thrown G l _ _ _ ⟨rfl, rfl⟩) mo_X12_thrown ml_L_98 (by rfl) rfl rfl (as := []) rfl rfl rfl rfl rfl ⟨by show n + 1 ≤ 601024; omega, by show 6 * (n + 1) ≤ 7293034; omega⟩ dL_law_364 (fun x3 h3 he => ?_)
  obtain ⟨e3, e4⟩ := he
  subst e4
  refine V.iload hc dL_law_367 rfl ?_
  obtain ⟨b1, b2, b3⟩ := hb
  refine V.icmp_eqT hc (tgt := 374) dL_law_369 (by decide) (e3.trans b1) ?_
  refine V.iload hc dL_law_374 rfl ?_
  refine V.if_ne hc (tgt := 391) dL_law_376 (by decide) (by unfold inR; omega) (fun _ => ?_) (fun z => ?_)
  · refine V.goto hc (tgt := 2109) dL_law_391 (by decide) ?_
    exact V.drop (lo' := [(3, 0), (21, 0), (22, 7), (87, 8), (0, i), (1, 0), (1, 0)]) ⟨Or.inr rfl, Or.inr rfl, Or.inr rfl, Or.inr rfl, Or.inr rfl, Or.inl rfl, Or.inl rfl, trivial⟩ (kk h3 (n + 1) b3 (by omega))
  · refine V.aload_n (t := 77) hc dL_law_379 rfl rfl ?_
    refine V.iconst hc dL_law_380 ?_
    refine V.jld hc (by omega) dL_law_381 ?_
    refine V.iload hc dL_law_382 rfl ?_
    refine V.i2lN hc dL_law_384 ?_
    refine V.lcmpT hc (b2 (by omega)) dL_law_385 ?_
    refine V.if_eq hc (tgt := 391) dL_law_386 (by decide) inR_0 (fun _ => ?_) (fun z => absurd rfl z)
    refine V.goto hc (tgt := 2109) dL_law_391 (by decide) ?_
    exact V.drop (lo' := [(3, 0), (21, 0), (22, 7), (87, 8), (0, i), (1, 0), (1, 0)]) ⟨Or.inr rfl, Or.inr rfl, Or.inr rfl, Or.inr rfl, Or.inr rfl, Or.inl rfl, Or.inl rfl, trivial⟩ (kk h3 (n + 1) b3 (by omega))
theorem cs_4 {G : GG} {p : Program} {l : Launch} {e : Jvm.Env} {s : State} {m : MethodId} {args : Array Value} {below : List Frame} {meth : Method} {c : Code} {Q : State → Prop} {i K : Int} {h : HP} {n : Nat} (hlf : l.stackTraces = false) (hc : VL G p s m args meth c) (hi : 0 ≤ i) (hL : i + 5 < (G.2.2.1 11 : Nat)) (hn : n + 4 ≤ 90000 + 4 * 520) (hK : 0 ≤ K) (iv : IV h K) (kk : ∀ h' n', IV h' (K + 1) → n' ≤ n + 4 → V G p l e room_1 s m args below meth c Q 7 2109 [(3, 0), (21, 0), (22, 7), (87, 8), (0, i), (1, 0), (1, 0)] [] h' n') : V G p l e room_1 s m args below meth c Q 7 394 [(3, 0), (21, 0), (22, 7), (87, 8), (0, i), (1, 0), (1, 0)] [] h n := by
  have hL7 : (G.2.2.1 11 : Int) ≤ 3072 := by have := hc.2.2.2.2.2.1.2.2.2.2.2.1; omega
  refine V.aload_n (t := 11) hc dL_law_394 rfl rfl ?_
  refine V.aloadC_n hc dL_law_395 rfl rfl ?_
  refine V.iload hc dL_law_396 rfl ?_
  refine V.iconst hc dL_law_398 ?_
  refine V.iadd hc dL_law_399 ?_
  refine V.sld hc (by omega) dL_law_400 ?_
  refine V.aloadC_n hc dL_law_401 rfl rfl ?_
  refine V.iload hc dL_law_402 rfl ?_
  refine V.iconst hc dL_law_404 ?_
  refine V.iadd hc dL_law_405 ?_
  refine V.sld hc (by omega) dL_law_406 ?_
  refine V.aload_n (t := 77) hc dL_law_407 rfl rfl ?_
  refine V.callSw hc (qL_of G l hlf (scA G (i + 1)) (scA G (i + 2)) h (fun kk g => wX12_of 7 (scA G (i + 1)) (scA G (i + 2)) g (Bk (fun g => IV g (K + 1)) kk)) (sq_of iv scA_in scA_in (fun _ q => q))) mw_L_of ml_L_109 (as := [(21, 0), (0, scA G (i + 1)), (0, scA G (i + 2)), (87, 8)]) rfl rfl rfl rfl rfl ⟨by show n + 2 ≤ 601024; omega, by show 6 * n + 6 * 2 ≤ 7293034; omega⟩ dL_law_408 (fun x1 h1 hw => ?_)
  obtain ⟨rx, hw⟩ := hw
  refine V.istore hc dL_law_411 rfl (lo' := [(3, 0), (21, 0), (22, 7), (87, 8), (0, i), (0, x1), (1, 0)]) rfl ?_
  refine V.aload_n (t := 12) hc dL_law_413 rfl rfl ?_
  refine V.aloadC_n hc dL_law_414 rfl rfl ?_
  refine V.iload hc dL_law_415 rfl ?_
  refine V.iconst hc dL_law_417 ?_
  refine V.iadd hc dL_law_418 ?_
  refine V.sld hc (by omega) dL_law_419 ?_
  refine V.aloadC_n hc dL_law_420 rfl rfl ?_
  refine V.iload hc dL_law_421 rfl ?_
  refine V.iconst hc dL_law_423 ?_
  refine V.iadd hc dL_law_424 ?_
  refine V.sld hc (by omega) dL_law_425 ?_
  refine V.callVI hc (qX12_of G l _ _ _ _ _ hw) mo_X12_of ml_L_112 (by rfl) rfl rfl (as := [(0, scA G (i + 1)), (0, scA G (i + 2))]) rfl rfl rfl rfl rfl ⟨by show n + 2 ≤ 601024; omega, by show 6 * (n + 2) ≤ 7293034; omega⟩ dL_law_426 (fun x2 h2 hb => ?_)
  refine V.istore hc dL_law_429 rfl (lo' := [(3, 0), (21, 0), (22, 7), (87, 8), (0, i), (0, x1), (0, x2)]) rfl ?_
  refine V.aload_n (t := 12) hc dL_law_431 rfl rfl ?_
  refine V.callVI hc (P := fun x g => x = h2 12 7 1 ∧ g = h2) (qX12_thrown G l _ _ _ ⟨rfl, rfl⟩) mo_X12_thrown ml_L_98 (by rfl) rfl rfl (as := []) rfl rfl rfl rfl rfl ⟨by show n + 2 ≤ 601024; omega, by show 6 * (n + 2) ≤ 7293034; omega⟩ dL_law_432 (fun x3 h3 he => ?_)
  obtain ⟨e3, e4⟩ := he
  subst e4
  refine V.iload hc dL_law_435 rfl ?_
  obtain ⟨b1, b2, b3⟩ := hb
  refine V.icmp_eqT hc (tgt := 442) dL_law_437 (by decide) (e3.trans b1) ?_
  refine V.iload hc dL_law_442 rfl ?_
  refine V.if_ne hc (tgt := 459) dL_law_444 (by decide) (by unfold inR; omega) (fun _ => ?_) (fun z => ?_)
  · refine V.goto hc (tgt := 2109) dL_law_459 (by decide) ?_
    exact V.drop (lo' := [(3, 0), (21, 0), (22, 7), (87, 8), (0, i), (1, 0), (1, 0)]) ⟨Or.inr rfl, Or.inr rfl, Or.inr rfl, Or.inr rfl, Or.inr rfl, Or.inl rfl, Or.inl rfl, trivial⟩ (kk h3 (n + 2) b3 (by omega))
  · refine V.aload_n (t := 77) hc dL_law_447 rfl rfl ?_
    refine V.iconst hc dL_law_448 ?_
    refine V.jld hc (by omega) dL_law_449 ?_
    refine V.iload hc dL_law_450 rfl ?_
    refine V.i2lN hc dL_law_452 ?_
    refine V.lcmpT hc (b2 (by omega)) dL_law_453 ?_
    refine V.if_eq hc (tgt := 459) dL_law_454 (by decide) inR_0 (fun _ => ?_) (fun z => absurd rfl z)
    refine V.goto hc (tgt := 2109) dL_law_459 (by decide) ?_
    exact V.drop (lo' := [(3, 0), (21, 0), (22, 7), (87, 8), (0, i), (1, 0), (1, 0)]) ⟨Or.inr rfl, Or.inr rfl, Or.inr rfl, Or.inr rfl, Or.inr rfl, Or.inl rfl, Or.inl rfl, trivial⟩ (kk h3 (n + 2) b3 (by omega))
theorem cs_5 {G : GG} {p : Program} {l : Launch} {e : Jvm.Env} {s : State} {m : MethodId} {args : Array Value} {below : List Frame} {meth : Method} {c : Code} {Q : State → Prop} {i K : Int} {h : HP} {n : Nat} (hlf : l.stackTraces = false) (hc : VL G p s m args meth c) (hi : 0 ≤ i) (hL : i + 5 < (G.2.2.1 11 : Nat)) (hn : n + 4 ≤ 90000 + 4 * 520) (hK : 0 ≤ K) (iv : IV h K) (kk : ∀ h' n', IV h' (K + 1) → n' ≤ n + 4 → V G p l e room_1 s m args below meth c Q 7 2109 [(3, 0), (21, 0), (22, 7), (87, 8), (0, i), (1, 0), (1, 0)] [] h' n') : V G p l e room_1 s m args below meth c Q 7 462 [(3, 0), (21, 0), (22, 7), (87, 8), (0, i), (1, 0), (1, 0)] [] h n := by
  have hL7 : (G.2.2.1 11 : Int) ≤ 3072 := by have := hc.2.2.2.2.2.1.2.2.2.2.2.1; omega
  refine V.aload_n (t := 11) hc dL_law_462 rfl rfl ?_
  refine V.aloadC_n hc dL_law_463 rfl rfl ?_
  refine V.iload hc dL_law_464 rfl ?_
  refine V.iconst hc dL_law_466 ?_
  refine V.iadd hc dL_law_467 ?_
  refine V.sld hc (by omega) dL_law_468 ?_
  refine V.aloadC_n hc dL_law_469 rfl rfl ?_
  refine V.iload hc dL_law_470 rfl ?_
  refine V.iconst hc dL_law_472 ?_
  refine V.iadd hc dL_law_473 ?_
  refine V.sld hc (by omega) dL_law_474 ?_
  refine V.aloadC_n hc dL_law_475 rfl rfl ?_
  refine V.iload hc dL_law_476 rfl ?_
  refine V.iconst hc dL_law_478 ?_
  refine V.iadd hc dL_law_479 ?_
  refine V.sld hc (by omega) dL_law_480 ?_
  refine V.aload_n (t := 77) hc dL_law_481 rfl rfl ?_
  refine V.callSw hc (qL_curve G l hlf (scA G (i + 1)) (scA G (i + 2)) (scA G (i + 3)) h (fun kk g => wX12_curve 7 (scA G (i + 1)) (scA G (i + 2)) (scA G (i + 3)) g (Bk (fun g => IV g (K + 1)) kk)) (sq_curve iv scA_in scA_in scA_in (fun _ q => q))) mw_L_curve ml_L_113 (as := [(21, 0), (0, scA G (i + 1)), (0, scA G (i + 2)), (0, scA G (i + 3)), (87, 8)]) rfl rfl rfl rfl rfl ⟨by show n + 2 ≤ 601024; omega, by show 6 * n + 6 * 2 ≤ 7293034; omega⟩ dL_law_482 (fun x1 h1 hw => ?_)
  obtain ⟨rx, hw⟩ := hw
  refine V.istore hc dL_law_485 rfl (lo' := [(3, 0), (21, 0), (22, 7), (87, 8), (0, i), (0, x1), (1, 0)]) rfl ?_
  refine V.aload_n (t := 12) hc dL_law_487 rfl rfl ?_
  refine V.aloadC_n hc dL_law_488 rfl rfl ?_
  refine V.iload hc dL_law_489 rfl ?_
  refine V.iconst hc dL_law_491 ?_
  refine V.iadd hc dL_law_492 ?_
  refine V.sld hc (by omega) dL_law_493 ?_
  refine V.aloadC_n hc dL_law_494 rfl rfl ?_
  refine V.iload hc dL_law_495 rfl ?_
  refine V.iconst hc dL_law_497 ?_
  refine V.iadd hc dL_law_498 ?_
  refine V.sld hc (by omega) dL_law_499 ?_
  refine V.aloadC_n hc dL_law_500 rfl rfl ?_
  refine V.iload hc dL_law_501 rfl ?_
  refine V.iconst hc dL_law_503 ?_
  refine V.iadd hc dL_law_504 ?_
  refine V.sld hc (by omega) dL_law_505 ?_
  refine V.callVI hc (qX12_curve G l _ _ _ _ _ _ hw) mo_X12_curve ml_L_116 (by rfl) rfl rfl (as := [(0, scA G (i + 1)), (0, scA G (i + 2)), (0, scA G (i + 3))]) rfl rfl rfl rfl rfl ⟨by show n + 2 ≤ 601024; omega, by show 6 * (n + 2) ≤ 7293034; omega⟩ dL_law_506 (fun x2 h2 hb => ?_)
  refine V.istore hc dL_law_509 rfl (lo' := [(3, 0), (21, 0), (22, 7), (87, 8), (0, i), (0, x1), (0, x2)]) rfl ?_
  refine V.aload_n (t := 12) hc dL_law_511 rfl rfl ?_
  refine V.callVI hc (P := fun x g => x = h2 12 7 1 ∧ g = h2) (qX12_thrown G l _ _ _ ⟨rfl, rfl⟩) mo_X12_thrown ml_L_98 (by rfl) rfl rfl (as := []) rfl rfl rfl rfl rfl ⟨by show n + 2 ≤ 601024; omega, by show 6 * (n + 2) ≤ 7293034; omega⟩ dL_law_512 (fun x3 h3 he => ?_)
  obtain ⟨e3, e4⟩ := he
  subst e4
  refine V.iload hc dL_law_515 rfl ?_
  obtain ⟨b1, b2, b3⟩ := hb
  refine V.icmp_eqT hc (tgt := 522) dL_law_517 (by decide) (e3.trans b1) ?_
  refine V.iload hc dL_law_522 rfl ?_
  refine V.if_ne hc (tgt := 539) dL_law_524 (by decide) (by unfold inR; omega) (fun _ => ?_) (fun z => ?_)
  · refine V.goto hc (tgt := 2109) dL_law_539 (by decide) ?_
    exact V.drop (lo' := [(3, 0), (21, 0), (22, 7), (87, 8), (0, i), (1, 0), (1, 0)]) ⟨Or.inr rfl, Or.inr rfl, Or.inr rfl, Or.inr rfl, Or.inr rfl, Or.inl rfl, Or.inl rfl, trivial⟩ (kk h3 (n + 2) b3 (by omega))
  · refine V.aload_n (t := 77) hc dL_law_527 rfl rfl ?_
    refine V.iconst hc dL_law_528 ?_
    refine V.jld hc (by omega) dL_law_529 ?_
    refine V.iload hc dL_law_530 rfl ?_
    refine V.i2lN hc dL_law_532 ?_
    refine V.lcmpT hc (b2 (by omega)) dL_law_533 ?_
    refine V.if_eq hc (tgt := 539) dL_law_534 (by decide) inR_0 (fun _ => ?_) (fun z => absurd rfl z)
    refine V.goto hc (tgt := 2109) dL_law_539 (by decide) ?_
    exact V.drop (lo' := [(3, 0), (21, 0), (22, 7), (87, 8), (0, i), (1, 0), (1, 0)]) ⟨Or.inr rfl, Or.inr rfl, Or.inr rfl, Or.inr rfl, Or.inr rfl, Or.inl rfl, Or.inl rfl, trivial⟩ (kk h3 (n + 2) b3 (by omega))
theorem cs_6 {G : GG} {p : Program} {l : Launch} {e : Jvm.Env} {s : State} {m : MethodId} {args : Array Value} {below : List Frame} {meth : Method} {c : Code} {Q : State → Prop} {i K : Int} {h : HP} {n : Nat} (hlf : l.stackTraces = false) (hc : VL G p s m args meth c) (hi : 0 ≤ i) (hL : i + 5 < (G.2.2.1 11 : Nat)) (hn : n + 4 ≤ 90000 + 4 * 520) (hK : 0 ≤ K) (iv : IV h K) (kk : ∀ h' n', IV h' (K + 1) → n' ≤ n + 4 → V G p l e room_1 s m args below meth c Q 7 2109 [(3, 0), (21, 0), (22, 7), (87, 8), (0, i), (1, 0), (1, 0)] [] h' n') : V G p l e room_1 s m args below meth c Q 7 542 [(3, 0), (21, 0), (22, 7), (87, 8), (0, i), (1, 0), (1, 0)] [] h n := by
  have hL7 : (G.2.2.1 11 : Int) ≤ 3072 := by have := hc.2.2.2.2.2.1.2.2.2.2.2.1; omega
  refine V.aload_n (t := 11) hc dL_law_542 rfl rfl ?_
  refine V.aloadC_n hc dL_law_543 rfl rfl ?_
  refine V.iload hc dL_law_544 rfl ?_
  refine V.iconst hc dL_law_546 ?_
  refine V.iadd hc dL_law_547 ?_
  refine V.sld hc (by omega) dL_law_548 ?_
  refine V.aloadC_n hc dL_law_549 rfl rfl ?_
  refine V.iload hc dL_law_550 rfl ?_
  refine V.iconst hc dL_law_552 ?_
  refine V.iadd hc dL_law_553 ?_
  refine V.sld hc (by omega) dL_law_554 ?_
  refine V.aload_n (t := 77) hc dL_law_555 rfl rfl ?_
  refine V.callSw hc (qL_packet G l hlf (scA G (i + 1)) (scA G (i + 2)) h (fun kk g => wX12_packet 7 (scA G (i + 1)) (scA G (i + 2)) g (Bk (fun g => IV g (K + 1)) kk)) (sq_packet iv scA_in scA_in (fun _ q => q))) mw_L_packet ml_L_117 (as := [(21, 0), (0, scA G (i + 1)), (0, scA G (i + 2)), (87, 8)]) rfl rfl rfl rfl rfl ⟨by show n + 2 ≤ 601024; omega, by show 6 * n + 6 * 2 ≤ 7293034; omega⟩ dL_law_556 (fun x1 h1 hw => ?_)
  obtain ⟨rx, hw⟩ := hw
  refine V.istore hc dL_law_559 rfl (lo' := [(3, 0), (21, 0), (22, 7), (87, 8), (0, i), (0, x1), (1, 0)]) rfl ?_
  refine V.aload_n (t := 12) hc dL_law_561 rfl rfl ?_
  refine V.aloadC_n hc dL_law_562 rfl rfl ?_
  refine V.iload hc dL_law_563 rfl ?_
  refine V.iconst hc dL_law_565 ?_
  refine V.iadd hc dL_law_566 ?_
  refine V.sld hc (by omega) dL_law_567 ?_
  refine V.aloadC_n hc dL_law_568 rfl rfl ?_
  refine V.iload hc dL_law_569 rfl ?_
  refine V.iconst hc dL_law_571 ?_
  refine V.iadd hc dL_law_572 ?_
  refine V.sld hc (by omega) dL_law_573 ?_
  refine V.callVI hc (qX12_packet G l _ _ _ _ _ hw) mo_X12_packet ml_L_119 (by rfl) rfl rfl (as := [(0, scA G (i + 1)), (0, scA G (i + 2))]) rfl rfl rfl rfl rfl ⟨by show n + 2 ≤ 601024; omega, by show 6 * (n + 2) ≤ 7293034; omega⟩ dL_law_574 (fun x2 h2 hb => ?_)
  refine V.istore hc dL_law_577 rfl (lo' := [(3, 0), (21, 0), (22, 7), (87, 8), (0, i), (0, x1), (0, x2)]) rfl ?_
  refine V.aload_n (t := 12) hc dL_law_579 rfl rfl ?_
  refine V.callVI hc (P := fun x g => x = h2 12 7 1 ∧ g = h2) (qX12_thrown G l _ _ _ ⟨rfl, rfl⟩) mo_X12_thrown ml_L_98 (by rfl) rfl rfl (as := []) rfl rfl rfl rfl rfl ⟨by show n + 2 ≤ 601024; omega, by show 6 * (n + 2) ≤ 7293034; omega⟩ dL_law_580 (fun x3 h3 he => ?_)
  obtain ⟨e3, e4⟩ := he
  subst e4
  refine V.iload hc dL_law_583 rfl ?_
  obtain ⟨b1, b2, b3⟩ := hb
  refine V.icmp_eqT hc (tgt := 590) dL_law_585 (by decide) (e3.trans b1) ?_
  refine V.iload hc dL_law_590 rfl ?_
  refine V.if_ne hc (tgt := 607) dL_law_592 (by decide) (by unfold inR; omega) (fun _ => ?_) (fun z => ?_)
  · refine V.goto hc (tgt := 2109) dL_law_607 (by decide) ?_
    exact V.drop (lo' := [(3, 0), (21, 0), (22, 7), (87, 8), (0, i), (1, 0), (1, 0)]) ⟨Or.inr rfl, Or.inr rfl, Or.inr rfl, Or.inr rfl, Or.inr rfl, Or.inl rfl, Or.inl rfl, trivial⟩ (kk h3 (n + 2) b3 (by omega))
  · refine V.aload_n (t := 77) hc dL_law_595 rfl rfl ?_
    refine V.iconst hc dL_law_596 ?_
    refine V.jld hc (by omega) dL_law_597 ?_
    refine V.iload hc dL_law_598 rfl ?_
    refine V.i2lN hc dL_law_600 ?_
    refine V.lcmpT hc (b2 (by omega)) dL_law_601 ?_
    refine V.if_eq hc (tgt := 607) dL_law_602 (by decide) inR_0 (fun _ => ?_) (fun z => absurd rfl z)
    refine V.goto hc (tgt := 2109) dL_law_607 (by decide) ?_
    exact V.drop (lo' := [(3, 0), (21, 0), (22, 7), (87, 8), (0, i), (1, 0), (1, 0)]) ⟨Or.inr rfl, Or.inr rfl, Or.inr rfl, Or.inr rfl, Or.inr rfl, Or.inl rfl, Or.inl rfl, trivial⟩ (kk h3 (n + 2) b3 (by omega))
theorem cs_7 {G : GG} {p : Program} {l : Launch} {e : Jvm.Env} {s : State} {m : MethodId} {args : Array Value} {below : List Frame} {meth : Method} {c : Code} {Q : State → Prop} {i K : Int} {h : HP} {n : Nat} (hlf : l.stackTraces = false) (hc : VL G p s m args meth c) (hi : 0 ≤ i) (hL : i + 5 < (G.2.2.1 11 : Nat)) (hn : n + 4 ≤ 90000 + 4 * 520) (hK : 0 ≤ K) (iv : IV h K) (kk : ∀ h' n', IV h' (K + 1) → n' ≤ n + 4 → V G p l e room_1 s m args below meth c Q 7 2109 [(3, 0), (21, 0), (22, 7), (87, 8), (0, i), (1, 0), (1, 0)] [] h' n') : V G p l e room_1 s m args below meth c Q 7 610 [(3, 0), (21, 0), (22, 7), (87, 8), (0, i), (1, 0), (1, 0)] [] h n := by
  have hL7 : (G.2.2.1 11 : Int) ≤ 3072 := by have := hc.2.2.2.2.2.1.2.2.2.2.2.1; omega
  refine V.aload_n (t := 11) hc dL_law_610 rfl rfl ?_
  refine V.aloadC_n hc dL_law_611 rfl rfl ?_
  refine V.iload hc dL_law_612 rfl ?_
  refine V.iconst hc dL_law_614 ?_
  refine V.iadd hc dL_law_615 ?_
  refine V.sld hc (by omega) dL_law_616 ?_
  refine V.aloadC_n hc dL_law_617 rfl rfl ?_
  refine V.iload hc dL_law_618 rfl ?_
  refine V.iconst hc dL_law_620 ?_
  refine V.iadd hc dL_law_621 ?_
  refine V.sld hc (by omega) dL_law_622 ?_
  refine V.aload_n (t := 77) hc dL_law_623 rfl rfl ?_
  refine V.callSw hc (qL_due G l hlf (scA G (i + 1)) (scA G (i + 2)) h (fun kk g => wX12_due 7 (scA G (i + 1)) (scA G (i + 2)) g (Bk (fun g => IV g (K + 1)) kk)) (sq_due iv scA_in scA_in (fun _ q => q))) mw_L_due ml_L_120 (as := [(21, 0), (0, scA G (i + 1)), (0, scA G (i + 2)), (87, 8)]) rfl rfl rfl rfl rfl ⟨by show n + 2 ≤ 601024; omega, by show 6 * n + 6 * 2 ≤ 7293034; omega⟩ dL_law_624 (fun x1 h1 hw => ?_)
  obtain ⟨rx, hw⟩ := hw
  refine V.istore hc dL_law_627 rfl (lo' := [(3, 0), (21, 0), (22, 7), (87, 8), (0, i), (0, x1), (1, 0)]) rfl ?_
  refine V.aload_n (t := 12) hc dL_law_629 rfl rfl ?_
  refine V.aloadC_n hc dL_law_630 rfl rfl ?_
  refine V.iload hc dL_law_631 rfl ?_
  refine V.iconst hc dL_law_633 ?_
  refine V.iadd hc dL_law_634 ?_
  refine V.sld hc (by omega) dL_law_635 ?_
  refine V.aloadC_n hc dL_law_636 rfl rfl ?_
  refine V.iload hc dL_law_637 rfl ?_
  refine V.iconst hc dL_law_639 ?_
  refine V.iadd hc dL_law_640 ?_
  refine V.sld hc (by omega) dL_law_641 ?_
  refine V.callVI hc (qX12_due G l _ _ _ _ _ hw) mo_X12_due ml_L_122 (by rfl) rfl rfl (as := [(0, scA G (i + 1)), (0, scA G (i + 2))]) rfl rfl rfl rfl rfl ⟨by show n + 2 ≤ 601024; omega, by show 6 * (n + 2) ≤ 7293034; omega⟩ dL_law_642 (fun x2 h2 hb => ?_)
  refine V.istore hc dL_law_645 rfl (lo' := [(3, 0), (21, 0), (22, 7), (87, 8), (0, i), (0, x1), (0, x2)]) rfl ?_
  refine V.aload_n (t := 12) hc dL_law_647 rfl rfl ?_
  refine V.callVI hc (P := fun x g => x = h2 12 7 1 ∧ g = h2) (qX12_thrown G l _ _ _ ⟨rfl, rfl⟩) mo_X12_thrown ml_L_98 (by rfl) rfl rfl (as := []) rfl rfl rfl rfl rfl ⟨by show n + 2 ≤ 601024; omega, by show 6 * (n + 2) ≤ 7293034; omega⟩ dL_law_648 (fun x3 h3 he => ?_)
  obtain ⟨e3, e4⟩ := he
  subst e4
  refine V.iload hc dL_law_651 rfl ?_
  obtain ⟨b1, b2, b3⟩ := hb
  refine V.icmp_eqT hc (tgt := 658) dL_law_653 (by decide) (e3.trans b1) ?_
  refine V.iload hc dL_law_658 rfl ?_
  refine V.if_ne hc (tgt := 675) dL_law_660 (by decide) (by unfold inR; omega) (fun _ => ?_) (fun z => ?_)
  · refine V.goto hc (tgt := 2109) dL_law_675 (by decide) ?_
    exact V.drop (lo' := [(3, 0), (21, 0), (22, 7), (87, 8), (0, i), (1, 0), (1, 0)]) ⟨Or.inr rfl, Or.inr rfl, Or.inr rfl, Or.inr rfl, Or.inr rfl, Or.inl rfl, Or.inl rfl, trivial⟩ (kk h3 (n + 2) b3 (by omega))
  · refine V.aload_n (t := 77) hc dL_law_663 rfl rfl ?_
    refine V.iconst hc dL_law_664 ?_
    refine V.jld hc (by omega) dL_law_665 ?_
    refine V.iload hc dL_law_666 rfl ?_
    refine V.i2lN hc dL_law_668 ?_
    refine V.lcmpT hc (b2 (by omega)) dL_law_669 ?_
    refine V.if_eq hc (tgt := 675) dL_law_670 (by decide) inR_0 (fun _ => ?_) (fun z => absurd rfl z)
    refine V.goto hc (tgt := 2109) dL_law_675 (by decide) ?_
    exact V.drop (lo' := [(3, 0), (21, 0), (22, 7), (87, 8), (0, i), (1, 0), (1, 0)]) ⟨Or.inr rfl, Or.inr rfl, Or.inr rfl, Or.inr rfl, Or.inr rfl, Or.inl rfl, Or.inl rfl, trivial⟩ (kk h3 (n + 2) b3 (by omega))
theorem cs_8 {G : GG} {p : Program} {l : Launch} {e : Jvm.Env} {s : State} {m : MethodId} {args : Array Value} {below : List Frame} {meth : Method} {c : Code} {Q : State → Prop} {i K : Int} {h : HP} {n : Nat} (hlf : l.stackTraces = false) (hc : VL G p s m args meth c) (hi : 0 ≤ i) (hL : i + 5 < (G.2.2.1 11 : Nat)) (hn : n + 4 ≤ 90000 + 4 * 520) (hK : 0 ≤ K) (iv : IV h K) (kk : ∀ h' n', IV h' (K + 1) → n' ≤ n + 4 → V G p l e room_1 s m args below meth c Q 7 2109 [(3, 0), (21, 0), (22, 7), (87, 8), (0, i), (1, 0), (1, 0)] [] h' n') : V G p l e room_1 s m args below meth c Q 7 678 [(3, 0), (21, 0), (22, 7), (87, 8), (0, i), (1, 0), (1, 0)] [] h n := by
  have hL7 : (G.2.2.1 11 : Int) ≤ 3072 := by have := hc.2.2.2.2.2.1.2.2.2.2.2.1; omega
  refine V.aload_n (t := 11) hc dL_law_678 rfl rfl ?_
  refine V.aloadC_n hc dL_law_679 rfl rfl ?_
  refine V.iload hc dL_law_680 rfl ?_
  refine V.iconst hc dL_law_682 ?_
  refine V.iadd hc dL_law_683 ?_
  refine V.sld hc (by omega) dL_law_684 ?_
  refine V.aloadC_n hc dL_law_685 rfl rfl ?_
  refine V.iload hc dL_law_686 rfl ?_
  refine V.iconst hc dL_law_688 ?_
  refine V.iadd hc dL_law_689 ?_
  refine V.sld hc (by omega) dL_law_690 ?_
  refine V.callVI hc (qX11_come G l _ _ _ _ _ (sp_come iv scA_in scA_in (fun _ q => q))) mo_X11_come ml_L_123 (by rfl) rfl rfl (as := [(0, scA G (i + 1)), (0, scA G (i + 2))]) rfl rfl rfl rfl rfl ⟨by show n ≤ 601024; omega, by show 6 * n ≤ 7293034; omega⟩ dL_law_691 (fun x1 h1 hw => ?_)
  refine V.aload_n (t := 12) hc dL_law_694 rfl rfl ?_
  refine V.aloadC_n hc dL_law_695 rfl rfl ?_
  refine V.iload hc dL_law_696 rfl ?_
  refine V.iconst hc dL_law_698 ?_
  refine V.iadd hc dL_law_699 ?_
  refine V.sld hc (by omega) dL_law_700 ?_
  refine V.aloadC_n hc dL_law_701 rfl rfl ?_
  refine V.iload hc dL_law_702 rfl ?_
  refine V.iconst hc dL_law_704 ?_
  refine V.iadd hc dL_law_705 ?_
  refine V.sld hc (by omega) dL_law_706 ?_
  refine V.callVI hc (qX12_come G l _ _ _ _ _ hw) mo_X12_come ml_L_126 (by rfl) rfl rfl (as := [(0, scA G (i + 1)), (0, scA G (i + 2))]) rfl rfl rfl rfl rfl ⟨by show n ≤ 601024; omega, by show 6 * (n) ≤ 7293034; omega⟩ dL_law_707 (fun x2 h2 hb => ?_)
  refine V.icmp_eqT hc (tgt := 2109) dL_law_710 (by decide) hb.1 ?_
  exact kk h2 n hb.2 (by omega)
theorem cs_9 {G : GG} {p : Program} {l : Launch} {e : Jvm.Env} {s : State} {m : MethodId} {args : Array Value} {below : List Frame} {meth : Method} {c : Code} {Q : State → Prop} {i K : Int} {h : HP} {n : Nat} (hlf : l.stackTraces = false) (hc : VL G p s m args meth c) (hi : 0 ≤ i) (hL : i + 5 < (G.2.2.1 11 : Nat)) (hn : n + 4 ≤ 90000 + 4 * 520) (hK : 0 ≤ K) (iv : IV h K) (kk : ∀ h' n', IV h' (K + 1) → n' ≤ n + 4 → V G p l e room_1 s m args below meth c Q 7 2109 [(3, 0), (21, 0), (22, 7), (87, 8), (0, i), (1, 0), (1, 0)] [] h' n') : V G p l e room_1 s m args below meth c Q 7 715 [(3, 0), (21, 0), (22, 7), (87, 8), (0, i), (1, 0), (1, 0)] [] h n := by
  have hL7 : (G.2.2.1 11 : Int) ≤ 3072 := by have := hc.2.2.2.2.2.1.2.2.2.2.2.1; omega
  refine V.aload_n (t := 11) hc dL_law_715 rfl rfl ?_
  refine V.aloadC_n hc dL_law_716 rfl rfl ?_
  refine V.iload hc dL_law_717 rfl ?_
  refine V.iconst hc dL_law_719 ?_
  refine V.iadd hc dL_law_720 ?_
  refine V.sld hc (by omega) dL_law_721 ?_
  refine V.callVI hc (qX11_units G l _ _ _ _ (sp_units iv scA_in (fun _ q => q))) mo_X11_units ml_L_127 (by rfl) rfl rfl (as := [(0, scA G (i + 1))]) rfl rfl rfl rfl rfl ⟨by show n ≤ 601024; omega, by show 6 * n ≤ 7293034; omega⟩ dL_law_722 (fun x1 h1 hw => ?_)
  refine V.aload_n (t := 12) hc dL_law_725 rfl rfl ?_
  refine V.aloadC_n hc dL_law_726 rfl rfl ?_
  refine V.iload hc dL_law_727 rfl ?_
  refine V.iconst hc dL_law_729 ?_
  refine V.iadd hc dL_law_730 ?_
  refine V.sld hc (by omega) dL_law_731 ?_
  refine V.callVI hc (qX12_units G l _ _ _ _ hw) mo_X12_units ml_L_130 (by rfl) rfl rfl (as := [(0, scA G (i + 1))]) rfl rfl rfl rfl rfl ⟨by show n ≤ 601024; omega, by show 6 * (n) ≤ 7293034; omega⟩ dL_law_732 (fun x2 h2 hb => ?_)
  refine V.icmp_eqT hc (tgt := 2109) dL_law_735 (by decide) hb.1 ?_
  exact kk h2 n hb.2 (by omega)
theorem cs_10 {G : GG} {p : Program} {l : Launch} {e : Jvm.Env} {s : State} {m : MethodId} {args : Array Value} {below : List Frame} {meth : Method} {c : Code} {Q : State → Prop} {i K : Int} {h : HP} {n : Nat} (hlf : l.stackTraces = false) (hc : VL G p s m args meth c) (hi : 0 ≤ i) (hL : i + 5 < (G.2.2.1 11 : Nat)) (hn : n + 4 ≤ 90000 + 4 * 520) (hK : 0 ≤ K) (iv : IV h K) (kk : ∀ h' n', IV h' (K + 1) → n' ≤ n + 4 → V G p l e room_1 s m args below meth c Q 7 2109 [(3, 0), (21, 0), (22, 7), (87, 8), (0, i), (1, 0), (1, 0)] [] h' n') : V G p l e room_1 s m args below meth c Q 7 740 [(3, 0), (21, 0), (22, 7), (87, 8), (0, i), (1, 0), (1, 0)] [] h n := by
  have hL7 : (G.2.2.1 11 : Int) ≤ 3072 := by have := hc.2.2.2.2.2.1.2.2.2.2.2.1; omega
  refine V.aload_n (t := 11) hc dL_law_740 rfl rfl ?_
  refine V.aloadC_n hc dL_law_741 rfl rfl ?_
  refine V.iload hc dL_law_742 rfl ?_
  refine V.iconst hc dL_law_744 ?_
  refine V.iadd hc dL_law_745 ?_
  refine V.sld hc (by omega) dL_law_746 ?_
  refine V.aloadC_n hc dL_law_747 rfl rfl ?_
  refine V.iload hc dL_law_748 rfl ?_
  refine V.iconst hc dL_law_750 ?_
  refine V.iadd hc dL_law_751 ?_
  refine V.sld hc (by omega) dL_law_752 ?_
  refine V.aloadC_n hc dL_law_753 rfl rfl ?_
  refine V.iload hc dL_law_754 rfl ?_
  refine V.iconst hc dL_law_756 ?_
  refine V.iadd hc dL_law_757 ?_
  refine V.sld hc (by omega) dL_law_758 ?_
  refine V.aloadC_n hc dL_law_759 rfl rfl ?_
  refine V.iload hc dL_law_760 rfl ?_
  refine V.iconst hc dL_law_762 ?_
  refine V.iadd hc dL_law_763 ?_
  refine V.sld hc (by omega) dL_law_764 ?_
  refine V.aloadC_n hc dL_law_765 rfl rfl ?_
  refine V.iload hc dL_law_766 rfl ?_
  refine V.iconst hc dL_law_768 ?_
  refine V.iadd hc dL_law_769 ?_
  refine V.sld hc (by omega) dL_law_770 ?_
  refine V.callVI hc (qX11_change G l _ _ _ _ _ _ _ _ (sp_change iv scA_in scA_in scA_in scA_in scA_in (fun _ q => q))) mo_X11_change ml_L_131 (by rfl) rfl rfl (as := [(0, scA G (i + 1)), (0, scA G (i + 2)), (0, scA G (i + 3)), (0, scA G (i + 4)), (0, scA G (i + 5))]) rfl rfl rfl rfl rfl ⟨by show n ≤ 601024; omega, by show 6 * n ≤ 7293034; omega⟩ dL_law_771 (fun x1 h1 hw => ?_)
  refine V.aload_n (t := 12) hc dL_law_774 rfl rfl ?_
  refine V.aloadC_n hc dL_law_775 rfl rfl ?_
  refine V.iload hc dL_law_776 rfl ?_
  refine V.iconst hc dL_law_778 ?_
  refine V.iadd hc dL_law_779 ?_
  refine V.sld hc (by omega) dL_law_780 ?_
  refine V.aloadC_n hc dL_law_781 rfl rfl ?_
  refine V.iload hc dL_law_782 rfl ?_
  refine V.iconst hc dL_law_784 ?_
  refine V.iadd hc dL_law_785 ?_
  refine V.sld hc (by omega) dL_law_786 ?_
  refine V.aloadC_n hc dL_law_787 rfl rfl ?_
  refine V.iload hc dL_law_788 rfl ?_
  refine V.iconst hc dL_law_790 ?_
  refine V.iadd hc dL_law_791 ?_
  refine V.sld hc (by omega) dL_law_792 ?_
  refine V.aloadC_n hc dL_law_793 rfl rfl ?_
  refine V.iload hc dL_law_794 rfl ?_
  refine V.iconst hc dL_law_796 ?_
  refine V.iadd hc dL_law_797 ?_
  refine V.sld hc (by omega) dL_law_798 ?_
  refine V.aloadC_n hc dL_law_799 rfl rfl ?_
  refine V.iload hc dL_law_800 rfl ?_
  refine V.iconst hc dL_law_802 ?_
  refine V.iadd hc dL_law_803 ?_
  refine V.sld hc (by omega) dL_law_804 ?_
  refine V.callVI hc (qX12_change G l _ _ _ _ _ _ _ _ hw) mo_X12_change ml_L_134 (by rfl) rfl rfl (as := [(0, scA G (i + 1)), (0, scA G (i + 2)), (0, scA G (i + 3)), (0, scA G (i + 4)), (0, scA G (i + 5))]) rfl rfl rfl rfl rfl ⟨by show n ≤ 601024; omega, by show 6 * (n) ≤ 7293034; omega⟩ dL_law_805 (fun x2 h2 hb => ?_)
  refine V.icmp_eqT hc (tgt := 2109) dL_law_808 (by decide) hb.1 ?_
  exact kk h2 n hb.2 (by omega)
theorem cs_11 {G : GG} {p : Program} {l : Launch} {e : Jvm.Env} {s : State} {m : MethodId} {args : Array Value} {below : List Frame} {meth : Method} {c : Code} {Q : State → Prop} {i K : Int} {h : HP} {n : Nat} (hlf : l.stackTraces = false) (hc : VL G p s m args meth c) (hi : 0 ≤ i) (hL : i + 5 < (G.2.2.1 11 : Nat)) (hn : n + 4 ≤ 90000 + 4 * 520) (hK : 0 ≤ K) (iv : IV h K) (kk : ∀ h' n', IV h' (K + 1) → n' ≤ n + 4 → V G p l e room_1 s m args below meth c Q 7 2109 [(3, 0), (21, 0), (22, 7), (87, 8), (0, i), (1, 0), (1, 0)] [] h' n') : V G p l e room_1 s m args below meth c Q 7 813 [(3, 0), (21, 0), (22, 7), (87, 8), (0, i), (1, 0), (1, 0)] [] h n := by
  have hL7 : (G.2.2.1 11 : Int) ≤ 3072 := by have := hc.2.2.2.2.2.1.2.2.2.2.2.1; omega
  refine V.aload_n (t := 11) hc dL_law_813 rfl rfl ?_
  refine V.aloadC_n hc dL_law_814 rfl rfl ?_
  refine V.iload hc dL_law_815 rfl ?_
  refine V.iconst hc dL_law_817 ?_
  refine V.iadd hc dL_law_818 ?_
  refine V.sld hc (by omega) dL_law_819 ?_
  refine V.callVI hc (qX11_empty G l _ _ _ _ (sp_empty iv scA_in (fun _ q => q))) mo_X11_empty ml_L_135 (by rfl) rfl rfl (as := [(0, scA G (i + 1))]) rfl rfl rfl rfl rfl ⟨by show n ≤ 601024; omega, by show 6 * n ≤ 7293034; omega⟩ dL_law_820 (fun x1 h1 hw => ?_)
  refine V.aload_n (t := 12) hc dL_law_823 rfl rfl ?_
  refine V.aloadC_n hc dL_law_824 rfl rfl ?_
  refine V.iload hc dL_law_825 rfl ?_
  refine V.iconst hc dL_law_827 ?_
  refine V.iadd hc dL_law_828 ?_
  refine V.sld hc (by omega) dL_law_829 ?_
  refine V.callVI hc (qX12_empty G l _ _ _ _ hw) mo_X12_empty ml_L_138 (by rfl) rfl rfl (as := [(0, scA G (i + 1))]) rfl rfl rfl rfl rfl ⟨by show n ≤ 601024; omega, by show 6 * (n) ≤ 7293034; omega⟩ dL_law_830 (fun x2 h2 hb => ?_)
  refine V.icmp_eqT hc (tgt := 2109) dL_law_833 (by decide) hb.1 ?_
  exact kk h2 n hb.2 (by omega)
theorem cs_12 {G : GG} {p : Program} {l : Launch} {e : Jvm.Env} {s : State} {m : MethodId} {args : Array Value} {below : List Frame} {meth : Method} {c : Code} {Q : State → Prop} {i K : Int} {h : HP} {n : Nat} (hlf : l.stackTraces = false) (hc : VL G p s m args meth c) (hi : 0 ≤ i) (hL : i + 5 < (G.2.2.1 11 : Nat)) (hn : n + 4 ≤ 90000 + 4 * 520) (hK : 0 ≤ K) (iv : IV h K) (kk : ∀ h' n', IV h' (K + 1) → n' ≤ n + 4 → V G p l e room_1 s m args below meth c Q 7 2109 [(3, 0), (21, 0), (22, 7), (87, 8), (0, i), (1, 0), (1, 0)] [] h' n') : V G p l e room_1 s m args below meth c Q 7 838 [(3, 0), (21, 0), (22, 7), (87, 8), (0, i), (1, 0), (1, 0)] [] h n := by
  have hL7 : (G.2.2.1 11 : Int) ≤ 3072 := by have := hc.2.2.2.2.2.1.2.2.2.2.2.1; omega
  refine V.aload_n (t := 11) hc dL_law_838 rfl rfl ?_
  refine V.aloadC_n hc dL_law_839 rfl rfl ?_
  refine V.iload hc dL_law_840 rfl ?_
  refine V.iconst hc dL_law_842 ?_
  refine V.iadd hc dL_law_843 ?_
  refine V.sld hc (by omega) dL_law_844 ?_
  refine V.aloadC_n hc dL_law_845 rfl rfl ?_
  refine V.iload hc dL_law_846 rfl ?_
  refine V.iconst hc dL_law_848 ?_
  refine V.iadd hc dL_law_849 ?_
  refine V.sld hc (by omega) dL_law_850 ?_
  refine V.callVI hc (qX11_lift G l _ _ _ _ _ (sp_lift iv scA_in scA_in (fun _ q => q))) mo_X11_lift ml_L_139 (by rfl) rfl rfl (as := [(0, scA G (i + 1)), (0, scA G (i + 2))]) rfl rfl rfl rfl rfl ⟨by show n ≤ 601024; omega, by show 6 * n ≤ 7293034; omega⟩ dL_law_851 (fun x1 h1 hw => ?_)
  refine V.aload_n (t := 12) hc dL_law_854 rfl rfl ?_
  refine V.aloadC_n hc dL_law_855 rfl rfl ?_
  refine V.iload hc dL_law_856 rfl ?_
  refine V.iconst hc dL_law_858 ?_
  refine V.iadd hc dL_law_859 ?_
  refine V.sld hc (by omega) dL_law_860 ?_
  refine V.aloadC_n hc dL_law_861 rfl rfl ?_
  refine V.iload hc dL_law_862 rfl ?_
  refine V.iconst hc dL_law_864 ?_
  refine V.iadd hc dL_law_865 ?_
  refine V.sld hc (by omega) dL_law_866 ?_
  refine V.callVI hc (qX12_lift G l _ _ _ _ _ hw) mo_X12_lift ml_L_143 (by rfl) rfl rfl (as := [(0, scA G (i + 1)), (0, scA G (i + 2))]) rfl rfl rfl rfl rfl ⟨by show n ≤ 601024; omega, by show 6 * (n) ≤ 7293034; omega⟩ dL_law_867 (fun x2 h2 hb => ?_)
  refine V.icmp_eqT hc (tgt := 2109) dL_law_870 (by decide) hb.1 ?_
  exact kk h2 n hb.2 (by omega)
theorem cs_13 {G : GG} {p : Program} {l : Launch} {e : Jvm.Env} {s : State} {m : MethodId} {args : Array Value} {below : List Frame} {meth : Method} {c : Code} {Q : State → Prop} {i K : Int} {h : HP} {n : Nat} (hlf : l.stackTraces = false) (hc : VL G p s m args meth c) (hi : 0 ≤ i) (hL : i + 5 < (G.2.2.1 11 : Nat)) (hn : n + 4 ≤ 90000 + 4 * 520) (hK : 0 ≤ K) (iv : IV h K) (kk : ∀ h' n', IV h' (K + 1) → n' ≤ n + 4 → V G p l e room_1 s m args below meth c Q 7 2109 [(3, 0), (21, 0), (22, 7), (87, 8), (0, i), (1, 0), (1, 0)] [] h' n') : V G p l e room_1 s m args below meth c Q 7 875 [(3, 0), (21, 0), (22, 7), (87, 8), (0, i), (1, 0), (1, 0)] [] h n := by
  have hL7 : (G.2.2.1 11 : Int) ≤ 3072 := by have := hc.2.2.2.2.2.1.2.2.2.2.2.1; omega
  refine V.aload_n (t := 11) hc dL_law_875 rfl rfl ?_
  refine V.aloadC_n hc dL_law_876 rfl rfl ?_
  refine V.iload hc dL_law_877 rfl ?_
  refine V.iconst hc dL_law_879 ?_
  refine V.iadd hc dL_law_880 ?_
  refine V.sld hc (by omega) dL_law_881 ?_
  refine V.callVI hc (qX11_stop G l _ _ _ _ (sp_stop iv scA_in (fun _ q => q))) mo_X11_stop ml_L_144 (by rfl) rfl rfl (as := [(0, scA G (i + 1))]) rfl rfl rfl rfl rfl ⟨by show n ≤ 601024; omega, by show 6 * n ≤ 7293034; omega⟩ dL_law_882 (fun x1 h1 hw => ?_)
  refine V.aload_n (t := 12) hc dL_law_885 rfl rfl ?_
  refine V.aloadC_n hc dL_law_886 rfl rfl ?_
  refine V.iload hc dL_law_887 rfl ?_
  refine V.iconst hc dL_law_889 ?_
  refine V.iadd hc dL_law_890 ?_
  refine V.sld hc (by omega) dL_law_891 ?_
  refine V.callVI hc (qX12_stop G l _ _ _ _ hw) mo_X12_stop ml_L_147 (by rfl) rfl rfl (as := [(0, scA G (i + 1))]) rfl rfl rfl rfl rfl ⟨by show n ≤ 601024; omega, by show 6 * (n) ≤ 7293034; omega⟩ dL_law_892 (fun x2 h2 hb => ?_)
  refine V.icmp_eqT hc (tgt := 2109) dL_law_895 (by decide) hb.1 ?_
  exact kk h2 n hb.2 (by omega)
theorem cs_14 {G : GG} {p : Program} {l : Launch} {e : Jvm.Env} {s : State} {m : MethodId} {args : Array Value} {below : List Frame} {meth : Method} {c : Code} {Q : State → Prop} {i K : Int} {h : HP} {n : Nat} (hlf : l.stackTraces = false) (hc : VL G p s m args meth c) (hi : 0 ≤ i) (hL : i + 5 < (G.2.2.1 11 : Nat)) (hn : n + 4 ≤ 90000 + 4 * 520) (hK : 0 ≤ K) (iv : IV h K) (kk : ∀ h' n', IV h' (K + 1) → n' ≤ n + 4 → V G p l e room_1 s m args below meth c Q 7 2109 [(3, 0), (21, 0), (22, 7), (87, 8), (0, i), (1, 0), (1, 0)] [] h' n') : V G p l e room_1 s m args below meth c Q 7 900 [(3, 0), (21, 0), (22, 7), (87, 8), (0, i), (1, 0), (1, 0)] [] h n := by
  have hL7 : (G.2.2.1 11 : Int) ≤ 3072 := by have := hc.2.2.2.2.2.1.2.2.2.2.2.1; omega
  refine V.aload_n (t := 11) hc dL_law_900 rfl rfl ?_
  refine V.callVI hc (qX11_undo G l _ _ _ (sp_undo iv  (fun _ q => q))) mo_X11_undo ml_L_148 (by rfl) rfl rfl (as := []) rfl rfl rfl rfl rfl ⟨by show n ≤ 601024; omega, by show 6 * n ≤ 7293034; omega⟩ dL_law_901 (fun x1 h1 hw => ?_)
  refine V.aload_n (t := 12) hc dL_law_904 rfl rfl ?_
  refine V.callVI hc (qX12_undo G l _ _ _ hw) mo_X12_undo ml_L_151 (by rfl) rfl rfl (as := []) rfl rfl rfl rfl rfl ⟨by show n ≤ 601024; omega, by show 6 * (n) ≤ 7293034; omega⟩ dL_law_905 (fun x2 h2 hb => ?_)
  refine V.icmp_eqT hc (tgt := 2109) dL_law_908 (by decide) hb.1 ?_
  exact kk h2 n hb.2 (by omega)
theorem cs_15 {G : GG} {p : Program} {l : Launch} {e : Jvm.Env} {s : State} {m : MethodId} {args : Array Value} {below : List Frame} {meth : Method} {c : Code} {Q : State → Prop} {i K : Int} {h : HP} {n : Nat} (hlf : l.stackTraces = false) (hc : VL G p s m args meth c) (hi : 0 ≤ i) (hL : i + 5 < (G.2.2.1 11 : Nat)) (hn : n + 4 ≤ 90000 + 4 * 520) (hK : 0 ≤ K) (iv : IV h K) (kk : ∀ h' n', IV h' (K + 1) → n' ≤ n + 4 → V G p l e room_1 s m args below meth c Q 7 2109 [(3, 0), (21, 0), (22, 7), (87, 8), (0, i), (1, 0), (1, 0)] [] h' n') : V G p l e room_1 s m args below meth c Q 7 913 [(3, 0), (21, 0), (22, 7), (87, 8), (0, i), (1, 0), (1, 0)] [] h n := by
  have hL7 : (G.2.2.1 11 : Int) ≤ 3072 := by have := hc.2.2.2.2.2.1.2.2.2.2.2.1; omega
  refine V.aload_n (t := 11) hc dL_law_913 rfl rfl ?_
  refine V.aloadC_n hc dL_law_914 rfl rfl ?_
  refine V.iload hc dL_law_915 rfl ?_
  refine V.iconst hc dL_law_917 ?_
  refine V.iadd hc dL_law_918 ?_
  refine V.sld hc (by omega) dL_law_919 ?_
  refine V.aload_n (t := 77) hc dL_law_920 rfl rfl ?_
  refine V.callSw hc (qL_together G l hlf (scA G (i + 1)) h (fun kk g => wX12_together 7 (scA G (i + 1)) g (Bk (fun g => IV g (K + 1)) kk)) (sq_together iv scA_in (fun _ q => q))) mw_L_together ml_L_152 (as := [(21, 0), (0, scA G (i + 1)), (87, 8)]) rfl rfl rfl rfl rfl ⟨by show n + 1 ≤ 601024; omega, by show 6 * n + 6 * 1 ≤ 7293034; omega⟩ dL_law_921 (fun x1 h1 hw => ?_)
  obtain ⟨rx, hw⟩ := hw
  refine V.istore hc dL_law_924 rfl (lo' := [(3, 0), (21, 0), (22, 7), (87, 8), (0, i), (0, x1), (1, 0)]) rfl ?_
  refine V.aload_n (t := 12) hc dL_law_926 rfl rfl ?_
  refine V.aloadC_n hc dL_law_927 rfl rfl ?_
  refine V.iload hc dL_law_928 rfl ?_
  refine V.iconst hc dL_law_930 ?_
  refine V.iadd hc dL_law_931 ?_
  refine V.sld hc (by omega) dL_law_932 ?_
  refine V.callVI hc (qX12_together G l _ _ _ _ hw) mo_X12_together ml_L_154 (by rfl) rfl rfl (as := [(0, scA G (i + 1))]) rfl rfl rfl rfl rfl ⟨by show n + 1 ≤ 601024; omega, by show 6 * (n + 1) ≤ 7293034; omega⟩ dL_law_933 (fun x2 h2 hb => ?_)
  refine V.istore hc dL_law_936 rfl (lo' := [(3, 0), (21, 0), (22, 7), (87, 8), (0, i), (0, x1), (0, x2)]) rfl ?_
  refine V.aload_n (t := 12) hc dL_law_938 rfl rfl ?_
  refine V.callVI hc (P := fun x g => x = h2 12 7 1 ∧ g = h2) (qX12_thrown G l _ _ _ ⟨rfl, rfl⟩) mo_X12_thrown ml_L_98 (by rfl) rfl rfl (as := []) rfl rfl rfl rfl rfl ⟨by show n + 1 ≤ 601024; omega, by show 6 * (n + 1) ≤ 7293034; omega⟩ dL_law_939 (fun x3 h3 he => ?_)
  obtain ⟨e3, e4⟩ := he
  subst e4
  refine V.iload hc dL_law_942 rfl ?_
  obtain ⟨b1, b2, b3⟩ := hb
  refine V.icmp_eqT hc (tgt := 949) dL_law_944 (by decide) (e3.trans b1) ?_
  refine V.iload hc dL_law_949 rfl ?_
  refine V.if_ne hc (tgt := 966) dL_law_951 (by decide) (by unfold inR; omega) (fun _ => ?_) (fun z => ?_)
  · refine V.goto hc (tgt := 2109) dL_law_966 (by decide) ?_
    exact V.drop (lo' := [(3, 0), (21, 0), (22, 7), (87, 8), (0, i), (1, 0), (1, 0)]) ⟨Or.inr rfl, Or.inr rfl, Or.inr rfl, Or.inr rfl, Or.inr rfl, Or.inl rfl, Or.inl rfl, trivial⟩ (kk h3 (n + 1) b3 (by omega))
  · refine V.aload_n (t := 77) hc dL_law_954 rfl rfl ?_
    refine V.iconst hc dL_law_955 ?_
    refine V.jld hc (by omega) dL_law_956 ?_
    refine V.iload hc dL_law_957 rfl ?_
    refine V.i2lN hc dL_law_959 ?_
    refine V.lcmpT hc (b2 (by omega)) dL_law_960 ?_
    refine V.if_eq hc (tgt := 966) dL_law_961 (by decide) inR_0 (fun _ => ?_) (fun z => absurd rfl z)
    refine V.goto hc (tgt := 2109) dL_law_966 (by decide) ?_
    exact V.drop (lo' := [(3, 0), (21, 0), (22, 7), (87, 8), (0, i), (1, 0), (1, 0)]) ⟨Or.inr rfl, Or.inr rfl, Or.inr rfl, Or.inr rfl, Or.inr rfl, Or.inl rfl, Or.inl rfl, trivial⟩ (kk h3 (n + 1) b3 (by omega))
theorem cs_16 {G : GG} {p : Program} {l : Launch} {e : Jvm.Env} {s : State} {m : MethodId} {args : Array Value} {below : List Frame} {meth : Method} {c : Code} {Q : State → Prop} {i K : Int} {h : HP} {n : Nat} (hlf : l.stackTraces = false) (hc : VL G p s m args meth c) (hi : 0 ≤ i) (hL : i + 5 < (G.2.2.1 11 : Nat)) (hn : n + 4 ≤ 90000 + 4 * 520) (hK : 0 ≤ K) (iv : IV h K) (kk : ∀ h' n', IV h' (K + 1) → n' ≤ n + 4 → V G p l e room_1 s m args below meth c Q 7 2109 [(3, 0), (21, 0), (22, 7), (87, 8), (0, i), (1, 0), (1, 0)] [] h' n') : V G p l e room_1 s m args below meth c Q 7 969 [(3, 0), (21, 0), (22, 7), (87, 8), (0, i), (1, 0), (1, 0)] [] h n := by
  have hL7 : (G.2.2.1 11 : Int) ≤ 3072 := by have := hc.2.2.2.2.2.1.2.2.2.2.2.1; omega
  refine V.aload_n (t := 11) hc dL_law_969 rfl rfl ?_
  refine V.aloadC_n hc dL_law_970 rfl rfl ?_
  refine V.iload hc dL_law_971 rfl ?_
  refine V.iconst hc dL_law_973 ?_
  refine V.iadd hc dL_law_974 ?_
  refine V.sld hc (by omega) dL_law_975 ?_
  refine V.aloadC_n hc dL_law_976 rfl rfl ?_
  refine V.iload hc dL_law_977 rfl ?_
  refine V.iconst hc dL_law_979 ?_
  refine V.iadd hc dL_law_980 ?_
  refine V.sld hc (by omega) dL_law_981 ?_
  refine V.aload_n (t := 77) hc dL_law_982 rfl rfl ?_
  refine V.callSw hc (qL_toGrant G l hlf (scA G (i + 1)) (scA G (i + 2)) h (fun kk g => wX12_toGrant 7 (scA G (i + 1)) (scA G (i + 2)) g (Bk (fun g => IV g (K + 1)) kk)) (sq_toGrant iv scA_in scA_in (fun _ q => q))) mw_L_toGrant ml_L_155 (as := [(21, 0), (0, scA G (i + 1)), (0, scA G (i + 2)), (87, 8)]) rfl rfl rfl rfl rfl ⟨by show n + 1 ≤ 601024; omega, by show 6 * n + 6 * 1 ≤ 7293034; omega⟩ dL_law_983 (fun x1 h1 hw => ?_)
  obtain ⟨rx, hw⟩ := hw
  refine V.istore hc dL_law_986 rfl (lo' := [(3, 0), (21, 0), (22, 7), (87, 8), (0, i), (0, x1), (1, 0)]) rfl ?_
  refine V.aload_n (t := 12) hc dL_law_988 rfl rfl ?_
  refine V.aloadC_n hc dL_law_989 rfl rfl ?_
  refine V.iload hc dL_law_990 rfl ?_
  refine V.iconst hc dL_law_992 ?_
  refine V.iadd hc dL_law_993 ?_
  refine V.sld hc (by omega) dL_law_994 ?_
  refine V.aloadC_n hc dL_law_995 rfl rfl ?_
  refine V.iload hc dL_law_996 rfl ?_
  refine V.iconst hc dL_law_998 ?_
  refine V.iadd hc dL_law_999 ?_
  refine V.sld hc (by omega) dL_law_1000 ?_
  refine V.callVI hc (qX12_toGrant G l _ _ _ _ _ hw) mo_X12_toGrant ml_L_157 (by rfl) rfl rfl (as := [(0, scA G (i + 1)), (0, scA G (i + 2))]) rfl rfl rfl rfl rfl ⟨by show n + 1 ≤ 601024; omega, by show 6 * (n + 1) ≤ 7293034; omega⟩ dL_law_1001 (fun x2 h2 hb => ?_)
  refine V.istore hc dL_law_1004 rfl (lo' := [(3, 0), (21, 0), (22, 7), (87, 8), (0, i), (0, x1), (0, x2)]) rfl ?_
  refine V.aload_n (t := 12) hc dL_law_1006 rfl rfl ?_
  refine V.callVI hc (P := fun x g => x = h2 12 7 1 ∧ g = h2) (qX12_thrown G l _ _ _ ⟨rfl, rfl⟩) mo_X12_thrown ml_L_98 (by rfl) rfl rfl (as := []) rfl rfl rfl rfl rfl ⟨by show n + 1 ≤ 601024; omega, by show 6 * (n + 1) ≤ 7293034; omega⟩ dL_law_1007 (fun x3 h3 he => ?_)
  obtain ⟨e3, e4⟩ := he
  subst e4
  refine V.iload hc dL_law_1010 rfl ?_
  obtain ⟨b1, b2, b3⟩ := hb
  refine V.icmp_eqT hc (tgt := 1017) dL_law_1012 (by decide) (e3.trans b1) ?_
  refine V.iload hc dL_law_1017 rfl ?_
  refine V.if_ne hc (tgt := 1034) dL_law_1019 (by decide) (by unfold inR; omega) (fun _ => ?_) (fun z => ?_)
  · refine V.goto hc (tgt := 2109) dL_law_1034 (by decide) ?_
    exact V.drop (lo' := [(3, 0), (21, 0), (22, 7), (87, 8), (0, i), (1, 0), (1, 0)]) ⟨Or.inr rfl, Or.inr rfl, Or.inr rfl, Or.inr rfl, Or.inr rfl, Or.inl rfl, Or.inl rfl, trivial⟩ (kk h3 (n + 1) b3 (by omega))
  · refine V.aload_n (t := 77) hc dL_law_1022 rfl rfl ?_
    refine V.iconst hc dL_law_1023 ?_
    refine V.jld hc (by omega) dL_law_1024 ?_
    refine V.iload hc dL_law_1025 rfl ?_
    refine V.i2lN hc dL_law_1027 ?_
    refine V.lcmpT hc (b2 (by omega)) dL_law_1028 ?_
    refine V.if_eq hc (tgt := 1034) dL_law_1029 (by decide) inR_0 (fun _ => ?_) (fun z => absurd rfl z)
    refine V.goto hc (tgt := 2109) dL_law_1034 (by decide) ?_
    exact V.drop (lo' := [(3, 0), (21, 0), (22, 7), (87, 8), (0, i), (1, 0), (1, 0)]) ⟨Or.inr rfl, Or.inr rfl, Or.inr rfl, Or.inr rfl, Or.inr rfl, Or.inl rfl, Or.inl rfl, trivial⟩ (kk h3 (n + 1) b3 (by omega))
theorem cs_17 {G : GG} {p : Program} {l : Launch} {e : Jvm.Env} {s : State} {m : MethodId} {args : Array Value} {below : List Frame} {meth : Method} {c : Code} {Q : State → Prop} {i K : Int} {h : HP} {n : Nat} (hlf : l.stackTraces = false) (hc : VL G p s m args meth c) (hi : 0 ≤ i) (hL : i + 5 < (G.2.2.1 11 : Nat)) (hn : n + 4 ≤ 90000 + 4 * 520) (hK : 0 ≤ K) (iv : IV h K) (kk : ∀ h' n', IV h' (K + 1) → n' ≤ n + 4 → V G p l e room_1 s m args below meth c Q 7 2109 [(3, 0), (21, 0), (22, 7), (87, 8), (0, i), (1, 0), (1, 0)] [] h' n') : V G p l e room_1 s m args below meth c Q 7 1037 [(3, 0), (21, 0), (22, 7), (87, 8), (0, i), (1, 0), (1, 0)] [] h n := by
  have hL7 : (G.2.2.1 11 : Int) ≤ 3072 := by have := hc.2.2.2.2.2.1.2.2.2.2.2.1; omega
  refine V.aload_n (t := 11) hc dL_law_1037 rfl rfl ?_
  refine V.aloadC_n hc dL_law_1038 rfl rfl ?_
  refine V.iload hc dL_law_1039 rfl ?_
  refine V.iconst hc dL_law_1041 ?_
  refine V.iadd hc dL_law_1042 ?_
  refine V.sld hc (by omega) dL_law_1043 ?_
  refine V.aloadC_n hc dL_law_1044 rfl rfl ?_
  refine V.iload hc dL_law_1045 rfl ?_
  refine V.iconst hc dL_law_1047 ?_
  refine V.iadd hc dL_law_1048 ?_
  refine V.sld hc (by omega) dL_law_1049 ?_
  refine V.aload_n (t := 77) hc dL_law_1050 rfl rfl ?_
  refine V.callSw hc (qL_bound G l hlf (scA G (i + 1)) (scA G (i + 2)) h (fun kk g => wX12_bound 7 (scA G (i + 1)) (scA G (i + 2)) g (Bk (fun g => IV g (K + 1)) kk)) (sq_bound iv scA_in scA_in (fun _ q => q))) mw_L_bound ml_L_158 (as := [(21, 0), (0, scA G (i + 1)), (0, scA G (i + 2)), (87, 8)]) rfl rfl rfl rfl rfl ⟨by show n + 3 ≤ 601024; omega, by show 6 * n + 6 * 3 ≤ 7293034; omega⟩ dL_law_1051 (fun x1 h1 hw => ?_)
  obtain ⟨rx, hw⟩ := hw
  refine V.istore hc dL_law_1054 rfl (lo' := [(3, 0), (21, 0), (22, 7), (87, 8), (0, i), (0, x1), (1, 0)]) rfl ?_
  refine V.aload_n (t := 12) hc dL_law_1056 rfl rfl ?_
  refine V.aloadC_n hc dL_law_1057 rfl rfl ?_
  refine V.iload hc dL_law_1058 rfl ?_
  refine V.iconst hc dL_law_1060 ?_
  refine V.iadd hc dL_law_1061 ?_
  refine V.sld hc (by omega) dL_law_1062 ?_
  refine V.aloadC_n hc dL_law_1063 rfl rfl ?_
  refine V.iload hc dL_law_1064 rfl ?_
  refine V.iconst hc dL_law_1066 ?_
  refine V.iadd hc dL_law_1067 ?_
  refine V.sld hc (by omega) dL_law_1068 ?_
  refine V.callVI hc (qX12_bound G l _ _ _ _ _ hw) mo_X12_bound ml_L_160 (by rfl) rfl rfl (as := [(0, scA G (i + 1)), (0, scA G (i + 2))]) rfl rfl rfl rfl rfl ⟨by show n + 3 ≤ 601024; omega, by show 6 * (n + 3) ≤ 7293034; omega⟩ dL_law_1069 (fun x2 h2 hb => ?_)
  refine V.istore hc dL_law_1072 rfl (lo' := [(3, 0), (21, 0), (22, 7), (87, 8), (0, i), (0, x1), (0, x2)]) rfl ?_
  refine V.aload_n (t := 12) hc dL_law_1074 rfl rfl ?_
  refine V.callVI hc (P := fun x g => x = h2 12 7 1 ∧ g = h2) (qX12_thrown G l _ _ _ ⟨rfl, rfl⟩) mo_X12_thrown ml_L_98 (by rfl) rfl rfl (as := []) rfl rfl rfl rfl rfl ⟨by show n + 3 ≤ 601024; omega, by show 6 * (n + 3) ≤ 7293034; omega⟩ dL_law_1075 (fun x3 h3 he => ?_)
  obtain ⟨e3, e4⟩ := he
  subst e4
  refine V.iload hc dL_law_1078 rfl ?_
  obtain ⟨b1, b2, b3⟩ := hb
  refine V.icmp_eqT hc (tgt := 1085) dL_law_1080 (by decide) (e3.trans b1) ?_
  refine V.iload hc dL_law_1085 rfl ?_
  refine V.if_ne hc (tgt := 1102) dL_law_1087 (by decide) (by unfold inR; omega) (fun _ => ?_) (fun z => ?_)
  · refine V.goto hc (tgt := 2109) dL_law_1102 (by decide) ?_
    exact V.drop (lo' := [(3, 0), (21, 0), (22, 7), (87, 8), (0, i), (1, 0), (1, 0)]) ⟨Or.inr rfl, Or.inr rfl, Or.inr rfl, Or.inr rfl, Or.inr rfl, Or.inl rfl, Or.inl rfl, trivial⟩ (kk h3 (n + 3) b3 (by omega))
  · refine V.aload_n (t := 77) hc dL_law_1090 rfl rfl ?_
    refine V.iconst hc dL_law_1091 ?_
    refine V.jld hc (by omega) dL_law_1092 ?_
    refine V.iload hc dL_law_1093 rfl ?_
    refine V.i2lN hc dL_law_1095 ?_
    refine V.lcmpT hc (b2 (by omega)) dL_law_1096 ?_
    refine V.if_eq hc (tgt := 1102) dL_law_1097 (by decide) inR_0 (fun _ => ?_) (fun z => absurd rfl z)
    refine V.goto hc (tgt := 2109) dL_law_1102 (by decide) ?_
    exact V.drop (lo' := [(3, 0), (21, 0), (22, 7), (87, 8), (0, i), (1, 0), (1, 0)]) ⟨Or.inr rfl, Or.inr rfl, Or.inr rfl, Or.inr rfl, Or.inr rfl, Or.inl rfl, Or.inl rfl, trivial⟩ (kk h3 (n + 3) b3 (by omega))
theorem cs_18 {G : GG} {p : Program} {l : Launch} {e : Jvm.Env} {s : State} {m : MethodId} {args : Array Value} {below : List Frame} {meth : Method} {c : Code} {Q : State → Prop} {i K : Int} {h : HP} {n : Nat} (hlf : l.stackTraces = false) (hc : VL G p s m args meth c) (hi : 0 ≤ i) (hL : i + 5 < (G.2.2.1 11 : Nat)) (hn : n + 4 ≤ 90000 + 4 * 520) (hK : 0 ≤ K) (iv : IV h K) (kk : ∀ h' n', IV h' (K + 1) → n' ≤ n + 4 → V G p l e room_1 s m args below meth c Q 7 2109 [(3, 0), (21, 0), (22, 7), (87, 8), (0, i), (1, 0), (1, 0)] [] h' n') : V G p l e room_1 s m args below meth c Q 7 1105 [(3, 0), (21, 0), (22, 7), (87, 8), (0, i), (1, 0), (1, 0)] [] h n := by
  have hL7 : (G.2.2.1 11 : Int) ≤ 3072 := by have := hc.2.2.2.2.2.1.2.2.2.2.2.1; omega
  refine V.aload_n (t := 11) hc dL_law_1105 rfl rfl ?_
  refine V.aloadC_n hc dL_law_1106 rfl rfl ?_
  refine V.iload hc dL_law_1107 rfl ?_
  refine V.iconst hc dL_law_1109 ?_
  refine V.iadd hc dL_law_1110 ?_
  refine V.sld hc (by omega) dL_law_1111 ?_
  refine V.aloadC_n hc dL_law_1112 rfl rfl ?_
  refine V.iload hc dL_law_1113 rfl ?_
  refine V.iconst hc dL_law_1115 ?_
  refine V.iadd hc dL_law_1116 ?_
  refine V.sld hc (by omega) dL_law_1117 ?_
  refine V.aloadC_n hc dL_law_1118 rfl rfl ?_
  refine V.iload hc dL_law_1119 rfl ?_
  refine V.iconst hc dL_law_1121 ?_
  refine V.iadd hc dL_law_1122 ?_
  refine V.sld hc (by omega) dL_law_1123 ?_
  refine V.aload_n (t := 77) hc dL_law_1124 rfl rfl ?_
  refine V.callSw hc (qL_then G l hlf (scA G (i + 1)) (scA G (i + 2)) (scA G (i + 3)) h (fun kk g => wX12_then 7 (scA G (i + 1)) (scA G (i + 2)) (scA G (i + 3)) g (Bk (fun g => IV g (K + 1)) kk)) (sq_then iv scA_in scA_in scA_in (fun _ q => q))) mw_L_then ml_L_161 (as := [(21, 0), (0, scA G (i + 1)), (0, scA G (i + 2)), (0, scA G (i + 3)), (87, 8)]) rfl rfl rfl rfl rfl ⟨by show n + 3 ≤ 601024; omega, by show 6 * n + 6 * 3 ≤ 7293034; omega⟩ dL_law_1125 (fun x1 h1 hw => ?_)
  obtain ⟨rx, hw⟩ := hw
  refine V.istore hc dL_law_1128 rfl (lo' := [(3, 0), (21, 0), (22, 7), (87, 8), (0, i), (0, x1), (1, 0)]) rfl ?_
  refine V.aload_n (t := 12) hc dL_law_1130 rfl rfl ?_
  refine V.aloadC_n hc dL_law_1131 rfl rfl ?_
  refine V.iload hc dL_law_1132 rfl ?_
  refine V.iconst hc dL_law_1134 ?_
  refine V.iadd hc dL_law_1135 ?_
  refine V.sld hc (by omega) dL_law_1136 ?_
  refine V.aloadC_n hc dL_law_1137 rfl rfl ?_
  refine V.iload hc dL_law_1138 rfl ?_
  refine V.iconst hc dL_law_1140 ?_
  refine V.iadd hc dL_law_1141 ?_
  refine V.sld hc (by omega) dL_law_1142 ?_
  refine V.aloadC_n hc dL_law_1143 rfl rfl ?_
  refine V.iload hc dL_law_1144 rfl ?_
  refine V.iconst hc dL_law_1146 ?_
  refine V.iadd hc dL_law_1147 ?_
  refine V.sld hc (by omega) dL_law_1148 ?_
  refine V.callVI hc (qX12_then G l _ _ _ _ _ _ hw) mo_X12_then ml_L_163 (by rfl) rfl rfl (as := [(0, scA G (i + 1)), (0, scA G (i + 2)), (0, scA G (i + 3))]) rfl rfl rfl rfl rfl ⟨by show n + 3 ≤ 601024; omega, by show 6 * (n + 3) ≤ 7293034; omega⟩ dL_law_1149 (fun x2 h2 hb => ?_)
  refine V.istore hc dL_law_1152 rfl (lo' := [(3, 0), (21, 0), (22, 7), (87, 8), (0, i), (0, x1), (0, x2)]) rfl ?_
  refine V.aload_n (t := 12) hc dL_law_1154 rfl rfl ?_
  refine V.callVI hc (P := fun x g => x = h2 12 7 1 ∧ g = h2) (qX12_thrown G l _ _ _ ⟨rfl, rfl⟩) mo_X12_thrown ml_L_98 (by rfl) rfl rfl (as := []) rfl rfl rfl rfl rfl ⟨by show n + 3 ≤ 601024; omega, by show 6 * (n + 3) ≤ 7293034; omega⟩ dL_law_1155 (fun x3 h3 he => ?_)
  obtain ⟨e3, e4⟩ := he
  subst e4
  refine V.iload hc dL_law_1158 rfl ?_
  obtain ⟨b1, b2, b3⟩ := hb
  refine V.icmp_eqT hc (tgt := 1165) dL_law_1160 (by decide) (e3.trans b1) ?_
  refine V.iload hc dL_law_1165 rfl ?_
  refine V.if_ne hc (tgt := 1182) dL_law_1167 (by decide) (by unfold inR; omega) (fun _ => ?_) (fun z => ?_)
  · refine V.goto hc (tgt := 2109) dL_law_1182 (by decide) ?_
    exact V.drop (lo' := [(3, 0), (21, 0), (22, 7), (87, 8), (0, i), (1, 0), (1, 0)]) ⟨Or.inr rfl, Or.inr rfl, Or.inr rfl, Or.inr rfl, Or.inr rfl, Or.inl rfl, Or.inl rfl, trivial⟩ (kk h3 (n + 3) b3 (by omega))
  · refine V.aload_n (t := 77) hc dL_law_1170 rfl rfl ?_
    refine V.iconst hc dL_law_1171 ?_
    refine V.jld hc (by omega) dL_law_1172 ?_
    refine V.iload hc dL_law_1173 rfl ?_
    refine V.i2lN hc dL_law_1175 ?_
    refine V.lcmpT hc (b2 (by omega)) dL_law_1176 ?_
    refine V.if_eq hc (tgt := 1182) dL_law_1177 (by decide) inR_0 (fun _ => ?_) (fun z => absurd rfl z)
    refine V.goto hc (tgt := 2109) dL_law_1182 (by decide) ?_
    exact V.drop (lo' := [(3, 0), (21, 0), (22, 7), (87, 8), (0, i), (1, 0), (1, 0)]) ⟨Or.inr rfl, Or.inr rfl, Or.inr rfl, Or.inr rfl, Or.inr rfl, Or.inl rfl, Or.inl rfl, trivial⟩ (kk h3 (n + 3) b3 (by omega))
theorem cs_19 {G : GG} {p : Program} {l : Launch} {e : Jvm.Env} {s : State} {m : MethodId} {args : Array Value} {below : List Frame} {meth : Method} {c : Code} {Q : State → Prop} {i K : Int} {h : HP} {n : Nat} (hlf : l.stackTraces = false) (hc : VL G p s m args meth c) (hi : 0 ≤ i) (hL : i + 5 < (G.2.2.1 11 : Nat)) (hn : n + 4 ≤ 90000 + 4 * 520) (hK : 0 ≤ K) (iv : IV h K) (kk : ∀ h' n', IV h' (K + 1) → n' ≤ n + 4 → V G p l e room_1 s m args below meth c Q 7 2109 [(3, 0), (21, 0), (22, 7), (87, 8), (0, i), (1, 0), (1, 0)] [] h' n') : V G p l e room_1 s m args below meth c Q 7 1185 [(3, 0), (21, 0), (22, 7), (87, 8), (0, i), (1, 0), (1, 0)] [] h n := by
  have hL7 : (G.2.2.1 11 : Int) ≤ 3072 := by have := hc.2.2.2.2.2.1.2.2.2.2.2.1; omega
  refine V.aload_n (t := 11) hc dL_law_1185 rfl rfl ?_
  refine V.aloadC_n hc dL_law_1186 rfl rfl ?_
  refine V.iload hc dL_law_1187 rfl ?_
  refine V.iconst hc dL_law_1189 ?_
  refine V.iadd hc dL_law_1190 ?_
  refine V.sld hc (by omega) dL_law_1191 ?_
  refine V.aloadC_n hc dL_law_1192 rfl rfl ?_
  refine V.iload hc dL_law_1193 rfl ?_
  refine V.iconst hc dL_law_1195 ?_
  refine V.iadd hc dL_law_1196 ?_
  refine V.sld hc (by omega) dL_law_1197 ?_
  refine V.aload_n (t := 77) hc dL_law_1198 rfl rfl ?_
  refine V.callSw hc (qL_next G l hlf (scA G (i + 1)) (scA G (i + 2)) h (fun kk g => wX12_next 7 (scA G (i + 1)) (scA G (i + 2)) g (Bk (fun g => IV g (K + 1)) kk)) (sq_next iv scA_in scA_in (fun _ q => q))) mw_L_next ml_L_164 (as := [(21, 0), (0, scA G (i + 1)), (0, scA G (i + 2)), (87, 8)]) rfl rfl rfl rfl rfl ⟨by show n + 2 ≤ 601024; omega, by show 6 * n + 6 * 2 ≤ 7293034; omega⟩ dL_law_1199 (fun x1 h1 hw => ?_)
  obtain ⟨rx, hw⟩ := hw
  refine V.istore hc dL_law_1202 rfl (lo' := [(3, 0), (21, 0), (22, 7), (87, 8), (0, i), (0, x1), (1, 0)]) rfl ?_
  refine V.aload_n (t := 12) hc dL_law_1204 rfl rfl ?_
  refine V.aloadC_n hc dL_law_1205 rfl rfl ?_
  refine V.iload hc dL_law_1206 rfl ?_
  refine V.iconst hc dL_law_1208 ?_
  refine V.iadd hc dL_law_1209 ?_
  refine V.sld hc (by omega) dL_law_1210 ?_
  refine V.aloadC_n hc dL_law_1211 rfl rfl ?_
  refine V.iload hc dL_law_1212 rfl ?_
  refine V.iconst hc dL_law_1214 ?_
  refine V.iadd hc dL_law_1215 ?_
  refine V.sld hc (by omega) dL_law_1216 ?_
  refine V.callVI hc (qX12_next G l _ _ _ _ _ hw) mo_X12_next ml_L_166 (by rfl) rfl rfl (as := [(0, scA G (i + 1)), (0, scA G (i + 2))]) rfl rfl rfl rfl rfl ⟨by show n + 2 ≤ 601024; omega, by show 6 * (n + 2) ≤ 7293034; omega⟩ dL_law_1217 (fun x2 h2 hb => ?_)
  refine V.istore hc dL_law_1220 rfl (lo' := [(3, 0), (21, 0), (22, 7), (87, 8), (0, i), (0, x1), (0, x2)]) rfl ?_
  refine V.aload_n (t := 12) hc dL_law_1222 rfl rfl ?_
  refine V.callVI hc (P := fun x g => x = h2 12 7 1 ∧ g = h2) (qX12_thrown G l _ _ _ ⟨rfl, rfl⟩) mo_X12_thrown ml_L_98 (by rfl) rfl rfl (as := []) rfl rfl rfl rfl rfl ⟨by show n + 2 ≤ 601024; omega, by show 6 * (n + 2) ≤ 7293034; omega⟩ dL_law_1223 (fun x3 h3 he => ?_)
  obtain ⟨e3, e4⟩ := he
  subst e4
  refine V.iload hc dL_law_1226 rfl ?_
  obtain ⟨b1, b2, b3⟩ := hb
  refine V.icmp_eqT hc (tgt := 1233) dL_law_1228 (by decide) (e3.trans b1) ?_
  refine V.iload hc dL_law_1233 rfl ?_
  refine V.if_ne hc (tgt := 1250) dL_law_1235 (by decide) (by unfold inR; omega) (fun _ => ?_) (fun z => ?_)
  · refine V.goto hc (tgt := 2109) dL_law_1250 (by decide) ?_
    exact V.drop (lo' := [(3, 0), (21, 0), (22, 7), (87, 8), (0, i), (1, 0), (1, 0)]) ⟨Or.inr rfl, Or.inr rfl, Or.inr rfl, Or.inr rfl, Or.inr rfl, Or.inl rfl, Or.inl rfl, trivial⟩ (kk h3 (n + 2) b3 (by omega))
  · refine V.aload_n (t := 77) hc dL_law_1238 rfl rfl ?_
    refine V.iconst hc dL_law_1239 ?_
    refine V.jld hc (by omega) dL_law_1240 ?_
    refine V.iload hc dL_law_1241 rfl ?_
    refine V.i2lN hc dL_law_1243 ?_
    refine V.lcmpT hc (b2 (by omega)) dL_law_1244 ?_
    refine V.if_eq hc (tgt := 1250) dL_law_1245 (by decide) inR_0 (fun _ => ?_) (fun z => absurd rfl z)
    refine V.goto hc (tgt := 2109) dL_law_1250 (by decide) ?_
    exact V.drop (lo' := [(3, 0), (21, 0), (22, 7), (87, 8), (0, i), (1, 0), (1, 0)]) ⟨Or.inr rfl, Or.inr rfl, Or.inr rfl, Or.inr rfl, Or.inr rfl, Or.inl rfl, Or.inl rfl, trivial⟩ (kk h3 (n + 2) b3 (by omega))
theorem cs_20 {G : GG} {p : Program} {l : Launch} {e : Jvm.Env} {s : State} {m : MethodId} {args : Array Value} {below : List Frame} {meth : Method} {c : Code} {Q : State → Prop} {i K : Int} {h : HP} {n : Nat} (hlf : l.stackTraces = false) (hc : VL G p s m args meth c) (hi : 0 ≤ i) (hL : i + 5 < (G.2.2.1 11 : Nat)) (hn : n + 4 ≤ 90000 + 4 * 520) (hK : 0 ≤ K) (iv : IV h K) (kk : ∀ h' n', IV h' (K + 1) → n' ≤ n + 4 → V G p l e room_1 s m args below meth c Q 7 2109 [(3, 0), (21, 0), (22, 7), (87, 8), (0, i), (1, 0), (1, 0)] [] h' n') : V G p l e room_1 s m args below meth c Q 7 1253 [(3, 0), (21, 0), (22, 7), (87, 8), (0, i), (1, 0), (1, 0)] [] h n := by
  have hL7 : (G.2.2.1 11 : Int) ≤ 3072 := by have := hc.2.2.2.2.2.1.2.2.2.2.2.1; omega
  refine V.aload_n (t := 11) hc dL_law_1253 rfl rfl ?_
  refine V.aloadC_n hc dL_law_1254 rfl rfl ?_
  refine V.iload hc dL_law_1255 rfl ?_
  refine V.iconst hc dL_law_1257 ?_
  refine V.iadd hc dL_law_1258 ?_
  refine V.sld hc (by omega) dL_law_1259 ?_
  refine V.aload_n (t := 77) hc dL_law_1260 rfl rfl ?_
  refine V.callSw hc (qL_waits G l hlf (scA G (i + 1)) h (fun kk g => wX12_waits 7 (scA G (i + 1)) g (Bk (fun g => IV g (K + 1)) kk)) (sq_waits iv scA_in (fun _ q => q))) mw_L_waits ml_L_167 (as := [(21, 0), (0, scA G (i + 1)), (87, 8)]) rfl rfl rfl rfl rfl ⟨by show n + 1 ≤ 601024; omega, by show 6 * n + 6 * 1 ≤ 7293034; omega⟩ dL_law_1261 (fun x1 h1 hw => ?_)
  obtain ⟨rx, hw⟩ := hw
  refine V.istore hc dL_law_1264 rfl (lo' := [(3, 0), (21, 0), (22, 7), (87, 8), (0, i), (0, x1), (1, 0)]) rfl ?_
  refine V.aload_n (t := 12) hc dL_law_1266 rfl rfl ?_
  refine V.aloadC_n hc dL_law_1267 rfl rfl ?_
  refine V.iload hc dL_law_1268 rfl ?_
  refine V.iconst hc dL_law_1270 ?_
  refine V.iadd hc dL_law_1271 ?_
  refine V.sld hc (by omega) dL_law_1272 ?_
  refine V.callVI hc (qX12_waits G l _ _ _ _ hw) mo_X12_waits ml_L_169 (by rfl) rfl rfl (as := [(0, scA G (i + 1))]) rfl rfl rfl rfl rfl ⟨by show n + 1 ≤ 601024; omega, by show 6 * (n + 1) ≤ 7293034; omega⟩ dL_law_1273 (fun x2 h2 hb => ?_)
  refine V.istore hc dL_law_1276 rfl (lo' := [(3, 0), (21, 0), (22, 7), (87, 8), (0, i), (0, x1), (0, x2)]) rfl ?_
  refine V.aload_n (t := 12) hc dL_law_1278 rfl rfl ?_
  refine V.callVI hc (P := fun x g => x = h2 12 7 1 ∧ g = h2) (qX12_thrown G l _ _ _ ⟨rfl, rfl⟩) mo_X12_thrown ml_L_98 (by rfl) rfl rfl (as := []) rfl rfl rfl rfl rfl ⟨by show n + 1 ≤ 601024; omega, by show 6 * (n + 1) ≤ 7293034; omega⟩ dL_law_1279 (fun x3 h3 he => ?_)
  obtain ⟨e3, e4⟩ := he
  subst e4
  refine V.iload hc dL_law_1282 rfl ?_
  obtain ⟨b1, b2, b3⟩ := hb
  refine V.icmp_eqT hc (tgt := 1289) dL_law_1284 (by decide) (e3.trans b1) ?_
  refine V.iload hc dL_law_1289 rfl ?_
  refine V.if_ne hc (tgt := 1306) dL_law_1291 (by decide) (by unfold inR; omega) (fun _ => ?_) (fun z => ?_)
  · refine V.goto hc (tgt := 2109) dL_law_1306 (by decide) ?_
    exact V.drop (lo' := [(3, 0), (21, 0), (22, 7), (87, 8), (0, i), (1, 0), (1, 0)]) ⟨Or.inr rfl, Or.inr rfl, Or.inr rfl, Or.inr rfl, Or.inr rfl, Or.inl rfl, Or.inl rfl, trivial⟩ (kk h3 (n + 1) b3 (by omega))
  · refine V.aload_n (t := 77) hc dL_law_1294 rfl rfl ?_
    refine V.iconst hc dL_law_1295 ?_
    refine V.jld hc (by omega) dL_law_1296 ?_
    refine V.iload hc dL_law_1297 rfl ?_
    refine V.i2lN hc dL_law_1299 ?_
    refine V.lcmpT hc (b2 (by omega)) dL_law_1300 ?_
    refine V.if_eq hc (tgt := 1306) dL_law_1301 (by decide) inR_0 (fun _ => ?_) (fun z => absurd rfl z)
    refine V.goto hc (tgt := 2109) dL_law_1306 (by decide) ?_
    exact V.drop (lo' := [(3, 0), (21, 0), (22, 7), (87, 8), (0, i), (1, 0), (1, 0)]) ⟨Or.inr rfl, Or.inr rfl, Or.inr rfl, Or.inr rfl, Or.inr rfl, Or.inl rfl, Or.inl rfl, trivial⟩ (kk h3 (n + 1) b3 (by omega))
theorem cs_21 {G : GG} {p : Program} {l : Launch} {e : Jvm.Env} {s : State} {m : MethodId} {args : Array Value} {below : List Frame} {meth : Method} {c : Code} {Q : State → Prop} {i K : Int} {h : HP} {n : Nat} (hlf : l.stackTraces = false) (hc : VL G p s m args meth c) (hi : 0 ≤ i) (hL : i + 5 < (G.2.2.1 11 : Nat)) (hn : n + 4 ≤ 90000 + 4 * 520) (hK : 0 ≤ K) (iv : IV h K) (kk : ∀ h' n', IV h' (K + 1) → n' ≤ n + 4 → V G p l e room_1 s m args below meth c Q 7 2109 [(3, 0), (21, 0), (22, 7), (87, 8), (0, i), (1, 0), (1, 0)] [] h' n') : V G p l e room_1 s m args below meth c Q 7 1309 [(3, 0), (21, 0), (22, 7), (87, 8), (0, i), (1, 0), (1, 0)] [] h n := by
  have hL7 : (G.2.2.1 11 : Int) ≤ 3072 := by have := hc.2.2.2.2.2.1.2.2.2.2.2.1; omega
  refine V.aload_n (t := 11) hc dL_law_1309 rfl rfl ?_
  refine V.aloadC_n hc dL_law_1310 rfl rfl ?_
  refine V.iload hc dL_law_1311 rfl ?_
  refine V.iconst hc dL_law_1313 ?_
  refine V.iadd hc dL_law_1314 ?_
  refine V.sld hc (by omega) dL_law_1315 ?_
  refine V.aloadC_n hc dL_law_1316 rfl rfl ?_
  refine V.iload hc dL_law_1317 rfl ?_
  refine V.iconst hc dL_law_1319 ?_
  refine V.iadd hc dL_law_1320 ?_
  refine V.sld hc (by omega) dL_law_1321 ?_
  refine V.aload_n (t := 77) hc dL_law_1322 rfl rfl ?_
  refine V.callSw hc (qL_longest G l hlf (scA G (i + 1)) (scA G (i + 2)) h (fun kk g => wX12_longest 7 (scA G (i + 1)) (scA G (i + 2)) g (Bk (fun g => IV g (K + 1)) kk)) (sq_longest iv scA_in scA_in (fun _ q => q))) mw_L_longest ml_L_170 (as := [(21, 0), (0, scA G (i + 1)), (0, scA G (i + 2)), (87, 8)]) rfl rfl rfl rfl rfl ⟨by show n + 2 ≤ 601024; omega, by show 6 * n + 6 * 2 ≤ 7293034; omega⟩ dL_law_1323 (fun x1 h1 hw => ?_)
  obtain ⟨rx, hw⟩ := hw
  refine V.istore hc dL_law_1326 rfl (lo' := [(3, 0), (21, 0), (22, 7), (87, 8), (0, i), (0, x1), (1, 0)]) rfl ?_
  refine V.aload_n (t := 12) hc dL_law_1328 rfl rfl ?_
  refine V.aloadC_n hc dL_law_1329 rfl rfl ?_
  refine V.iload hc dL_law_1330 rfl ?_
  refine V.iconst hc dL_law_1332 ?_
  refine V.iadd hc dL_law_1333 ?_
  refine V.sld hc (by omega) dL_law_1334 ?_
  refine V.aloadC_n hc dL_law_1335 rfl rfl ?_
  refine V.iload hc dL_law_1336 rfl ?_
  refine V.iconst hc dL_law_1338 ?_
  refine V.iadd hc dL_law_1339 ?_
  refine V.sld hc (by omega) dL_law_1340 ?_
  refine V.callVI hc (qX12_longest G l _ _ _ _ _ hw) mo_X12_longest ml_L_172 (by rfl) rfl rfl (as := [(0, scA G (i + 1)), (0, scA G (i + 2))]) rfl rfl rfl rfl rfl ⟨by show n + 2 ≤ 601024; omega, by show 6 * (n + 2) ≤ 7293034; omega⟩ dL_law_1341 (fun x2 h2 hb => ?_)
  refine V.istore hc dL_law_1344 rfl (lo' := [(3, 0), (21, 0), (22, 7), (87, 8), (0, i), (0, x1), (0, x2)]) rfl ?_
  refine V.aload_n (t := 12) hc dL_law_1346 rfl rfl ?_
  refine V.callVI hc (P := fun x g => x = h2 12 7 1 ∧ g = h2) (qX12_thrown G l _ _ _ ⟨rfl, rfl⟩) mo_X12_thrown ml_L_98 (by rfl) rfl rfl (as := []) rfl rfl rfl rfl rfl ⟨by show n + 2 ≤ 601024; omega, by show 6 * (n + 2) ≤ 7293034; omega⟩ dL_law_1347 (fun x3 h3 he => ?_)
  obtain ⟨e3, e4⟩ := he
  subst e4
  refine V.iload hc dL_law_1350 rfl ?_
  obtain ⟨b1, b2, b3⟩ := hb
  refine V.icmp_eqT hc (tgt := 1357) dL_law_1352 (by decide) (e3.trans b1) ?_
  refine V.iload hc dL_law_1357 rfl ?_
  refine V.if_ne hc (tgt := 1374) dL_law_1359 (by decide) (by unfold inR; omega) (fun _ => ?_) (fun z => ?_)
  · refine V.goto hc (tgt := 2109) dL_law_1374 (by decide) ?_
    exact V.drop (lo' := [(3, 0), (21, 0), (22, 7), (87, 8), (0, i), (1, 0), (1, 0)]) ⟨Or.inr rfl, Or.inr rfl, Or.inr rfl, Or.inr rfl, Or.inr rfl, Or.inl rfl, Or.inl rfl, trivial⟩ (kk h3 (n + 2) b3 (by omega))
  · refine V.aload_n (t := 77) hc dL_law_1362 rfl rfl ?_
    refine V.iconst hc dL_law_1363 ?_
    refine V.jld hc (by omega) dL_law_1364 ?_
    refine V.iload hc dL_law_1365 rfl ?_
    refine V.i2lN hc dL_law_1367 ?_
    refine V.lcmpT hc (b2 (by omega)) dL_law_1368 ?_
    refine V.if_eq hc (tgt := 1374) dL_law_1369 (by decide) inR_0 (fun _ => ?_) (fun z => absurd rfl z)
    refine V.goto hc (tgt := 2109) dL_law_1374 (by decide) ?_
    exact V.drop (lo' := [(3, 0), (21, 0), (22, 7), (87, 8), (0, i), (1, 0), (1, 0)]) ⟨Or.inr rfl, Or.inr rfl, Or.inr rfl, Or.inr rfl, Or.inr rfl, Or.inl rfl, Or.inl rfl, trivial⟩ (kk h3 (n + 2) b3 (by omega))
theorem cs_22 {G : GG} {p : Program} {l : Launch} {e : Jvm.Env} {s : State} {m : MethodId} {args : Array Value} {below : List Frame} {meth : Method} {c : Code} {Q : State → Prop} {i K : Int} {h : HP} {n : Nat} (hlf : l.stackTraces = false) (hc : VL G p s m args meth c) (hi : 0 ≤ i) (hL : i + 5 < (G.2.2.1 11 : Nat)) (hn : n + 4 ≤ 90000 + 4 * 520) (hK : 0 ≤ K) (iv : IV h K) (kk : ∀ h' n', IV h' (K + 1) → n' ≤ n + 4 → V G p l e room_1 s m args below meth c Q 7 2109 [(3, 0), (21, 0), (22, 7), (87, 8), (0, i), (1, 0), (1, 0)] [] h' n') : V G p l e room_1 s m args below meth c Q 7 1377 [(3, 0), (21, 0), (22, 7), (87, 8), (0, i), (1, 0), (1, 0)] [] h n := by
  have hL7 : (G.2.2.1 11 : Int) ≤ 3072 := by have := hc.2.2.2.2.2.1.2.2.2.2.2.1; omega
  refine V.aload_n (t := 11) hc dL_law_1377 rfl rfl ?_
  refine V.aloadC_n hc dL_law_1378 rfl rfl ?_
  refine V.iload hc dL_law_1379 rfl ?_
  refine V.iconst hc dL_law_1381 ?_
  refine V.iadd hc dL_law_1382 ?_
  refine V.sld hc (by omega) dL_law_1383 ?_
  refine V.aloadC_n hc dL_law_1384 rfl rfl ?_
  refine V.iload hc dL_law_1385 rfl ?_
  refine V.iconst hc dL_law_1387 ?_
  refine V.iadd hc dL_law_1388 ?_
  refine V.sld hc (by omega) dL_law_1389 ?_
  refine V.aloadC_n hc dL_law_1390 rfl rfl ?_
  refine V.iload hc dL_law_1391 rfl ?_
  refine V.iconst hc dL_law_1393 ?_
  refine V.iadd hc dL_law_1394 ?_
  refine V.sld hc (by omega) dL_law_1395 ?_
  refine V.aload_n (t := 77) hc dL_law_1396 rfl rfl ?_
  refine V.callSw hc (qL_toShare G l hlf (scA G (i + 1)) (scA G (i + 2)) (scA G (i + 3)) h (fun kk g => wX12_toShare 7 (scA G (i + 1)) (scA G (i + 2)) (scA G (i + 3)) g (Bk (fun g => IV g (K + 1)) kk)) (sq_toShare iv scA_in scA_in scA_in (fun _ q => q))) mw_L_toShare ml_L_173 (as := [(21, 0), (0, scA G (i + 1)), (0, scA G (i + 2)), (0, scA G (i + 3)), (87, 8)]) rfl rfl rfl rfl rfl ⟨by show n + 3 ≤ 601024; omega, by show 6 * n + 6 * 3 ≤ 7293034; omega⟩ dL_law_1397 (fun x1 h1 hw => ?_)
  obtain ⟨rx, hw⟩ := hw
  refine V.istore hc dL_law_1400 rfl (lo' := [(3, 0), (21, 0), (22, 7), (87, 8), (0, i), (0, x1), (1, 0)]) rfl ?_
  refine V.aload_n (t := 12) hc dL_law_1402 rfl rfl ?_
  refine V.aloadC_n hc dL_law_1403 rfl rfl ?_
  refine V.iload hc dL_law_1404 rfl ?_
  refine V.iconst hc dL_law_1406 ?_
  refine V.iadd hc dL_law_1407 ?_
  refine V.sld hc (by omega) dL_law_1408 ?_
  refine V.aloadC_n hc dL_law_1409 rfl rfl ?_
  refine V.iload hc dL_law_1410 rfl ?_
  refine V.iconst hc dL_law_1412 ?_
  refine V.iadd hc dL_law_1413 ?_
  refine V.sld hc (by omega) dL_law_1414 ?_
  refine V.aloadC_n hc dL_law_1415 rfl rfl ?_
  refine V.iload hc dL_law_1416 rfl ?_
  refine V.iconst hc dL_law_1418 ?_
  refine V.iadd hc dL_law_1419 ?_
  refine V.sld hc (by omega) dL_law_1420 ?_
  refine V.callVI hc (qX12_toShare G l _ _ _ _ _ _ hw) mo_X12_toShare ml_L_175 (by rfl) rfl rfl (as := [(0, scA G (i + 1)), (0, scA G (i + 2)), (0, scA G (i + 3))]) rfl rfl rfl rfl rfl ⟨by show n + 3 ≤ 601024; omega, by show 6 * (n + 3) ≤ 7293034; omega⟩ dL_law_1421 (fun x2 h2 hb => ?_)
  refine V.istore hc dL_law_1424 rfl (lo' := [(3, 0), (21, 0), (22, 7), (87, 8), (0, i), (0, x1), (0, x2)]) rfl ?_
  refine V.aload_n (t := 12) hc dL_law_1426 rfl rfl ?_
  refine V.callVI hc (P := fun x g => x = h2 12 7 1 ∧ g = h2) (qX12_thrown G l _ _ _ ⟨rfl, rfl⟩) mo_X12_thrown ml_L_98 (by rfl) rfl rfl (as := []) rfl rfl rfl rfl rfl ⟨by show n + 3 ≤ 601024; omega, by show 6 * (n + 3) ≤ 7293034; omega⟩ dL_law_1427 (fun x3 h3 he => ?_)
  obtain ⟨e3, e4⟩ := he
  subst e4
  refine V.iload hc dL_law_1430 rfl ?_
  obtain ⟨b1, b2, b3⟩ := hb
  refine V.icmp_eqT hc (tgt := 1437) dL_law_1432 (by decide) (e3.trans b1) ?_
  refine V.iload hc dL_law_1437 rfl ?_
  refine V.if_ne hc (tgt := 1454) dL_law_1439 (by decide) (by unfold inR; omega) (fun _ => ?_) (fun z => ?_)
  · refine V.goto hc (tgt := 2109) dL_law_1454 (by decide) ?_
    exact V.drop (lo' := [(3, 0), (21, 0), (22, 7), (87, 8), (0, i), (1, 0), (1, 0)]) ⟨Or.inr rfl, Or.inr rfl, Or.inr rfl, Or.inr rfl, Or.inr rfl, Or.inl rfl, Or.inl rfl, trivial⟩ (kk h3 (n + 3) b3 (by omega))
  · refine V.aload_n (t := 77) hc dL_law_1442 rfl rfl ?_
    refine V.iconst hc dL_law_1443 ?_
    refine V.jld hc (by omega) dL_law_1444 ?_
    refine V.iload hc dL_law_1445 rfl ?_
    refine V.i2lN hc dL_law_1447 ?_
    refine V.lcmpT hc (b2 (by omega)) dL_law_1448 ?_
    refine V.if_eq hc (tgt := 1454) dL_law_1449 (by decide) inR_0 (fun _ => ?_) (fun z => absurd rfl z)
    refine V.goto hc (tgt := 2109) dL_law_1454 (by decide) ?_
    exact V.drop (lo' := [(3, 0), (21, 0), (22, 7), (87, 8), (0, i), (1, 0), (1, 0)]) ⟨Or.inr rfl, Or.inr rfl, Or.inr rfl, Or.inr rfl, Or.inr rfl, Or.inl rfl, Or.inl rfl, trivial⟩ (kk h3 (n + 3) b3 (by omega))
theorem cs_23 {G : GG} {p : Program} {l : Launch} {e : Jvm.Env} {s : State} {m : MethodId} {args : Array Value} {below : List Frame} {meth : Method} {c : Code} {Q : State → Prop} {i K : Int} {h : HP} {n : Nat} (hlf : l.stackTraces = false) (hc : VL G p s m args meth c) (hi : 0 ≤ i) (hL : i + 5 < (G.2.2.1 11 : Nat)) (hn : n + 4 ≤ 90000 + 4 * 520) (hK : 0 ≤ K) (iv : IV h K) (kk : ∀ h' n', IV h' (K + 1) → n' ≤ n + 4 → V G p l e room_1 s m args below meth c Q 7 2109 [(3, 0), (21, 0), (22, 7), (87, 8), (0, i), (1, 0), (1, 0)] [] h' n') : V G p l e room_1 s m args below meth c Q 7 1457 [(3, 0), (21, 0), (22, 7), (87, 8), (0, i), (1, 0), (1, 0)] [] h n := by
  have hL7 : (G.2.2.1 11 : Int) ≤ 3072 := by have := hc.2.2.2.2.2.1.2.2.2.2.2.1; omega
  refine V.aload_n (t := 11) hc dL_law_1457 rfl rfl ?_
  refine V.aloadC_n hc dL_law_1458 rfl rfl ?_
  refine V.iload hc dL_law_1459 rfl ?_
  refine V.iconst hc dL_law_1461 ?_
  refine V.iadd hc dL_law_1462 ?_
  refine V.sld hc (by omega) dL_law_1463 ?_
  refine V.aloadC_n hc dL_law_1464 rfl rfl ?_
  refine V.iload hc dL_law_1465 rfl ?_
  refine V.iconst hc dL_law_1467 ?_
  refine V.iadd hc dL_law_1468 ?_
  refine V.sld hc (by omega) dL_law_1469 ?_
  refine V.aloadC_n hc dL_law_1470 rfl rfl ?_
  refine V.iload hc dL_law_1471 rfl ?_
  refine V.iconst hc dL_law_1473 ?_
  refine V.iadd hc dL_law_1474 ?_
  refine V.sld hc (by omega) dL_law_1475 ?_
  refine V.aload_n (t := 77) hc dL_law_1476 rfl rfl ?_
  refine V.callSw hc (qL_toCap G l hlf (scA G (i + 1)) (scA G (i + 2)) (scA G (i + 3)) h (fun kk g => wX12_toCap 7 (scA G (i + 1)) (scA G (i + 2)) (scA G (i + 3)) g (Bk (fun g => IV g (K + 1)) kk)) (sq_toCap iv scA_in scA_in scA_in (fun _ q => q))) mw_L_toCap ml_L_176 (as := [(21, 0), (0, scA G (i + 1)), (0, scA G (i + 2)), (0, scA G (i + 3)), (87, 8)]) rfl rfl rfl rfl rfl ⟨by show n + 3 ≤ 601024; omega, by show 6 * n + 6 * 3 ≤ 7293034; omega⟩ dL_law_1477 (fun x1 h1 hw => ?_)
  obtain ⟨rx, hw⟩ := hw
  refine V.istore hc dL_law_1480 rfl (lo' := [(3, 0), (21, 0), (22, 7), (87, 8), (0, i), (0, x1), (1, 0)]) rfl ?_
  refine V.aload_n (t := 12) hc dL_law_1482 rfl rfl ?_
  refine V.aloadC_n hc dL_law_1483 rfl rfl ?_
  refine V.iload hc dL_law_1484 rfl ?_
  refine V.iconst hc dL_law_1486 ?_
  refine V.iadd hc dL_law_1487 ?_
  refine V.sld hc (by omega) dL_law_1488 ?_
  refine V.aloadC_n hc dL_law_1489 rfl rfl ?_
  refine V.iload hc dL_law_1490 rfl ?_
  refine V.iconst hc dL_law_1492 ?_
  refine V.iadd hc dL_law_1493 ?_
  refine V.sld hc (by omega) dL_law_1494 ?_
  refine V.aloadC_n hc dL_law_1495 rfl rfl ?_
  refine V.iload hc dL_law_1496 rfl ?_
  refine V.iconst hc dL_law_1498 ?_
  refine V.iadd hc dL_law_1499 ?_
  refine V.sld hc (by omega) dL_law_1500 ?_
  refine V.callVI hc (qX12_toCap G l _ _ _ _ _ _ hw) mo_X12_toCap ml_L_178 (by rfl) rfl rfl (as := [(0, scA G (i + 1)), (0, scA G (i + 2)), (0, scA G (i + 3))]) rfl rfl rfl rfl rfl ⟨by show n + 3 ≤ 601024; omega, by show 6 * (n + 3) ≤ 7293034; omega⟩ dL_law_1501 (fun x2 h2 hb => ?_)
  refine V.istore hc dL_law_1504 rfl (lo' := [(3, 0), (21, 0), (22, 7), (87, 8), (0, i), (0, x1), (0, x2)]) rfl ?_
  refine V.aload_n (t := 12) hc dL_law_1506 rfl rfl ?_
  refine V.callVI hc (P := fun x g => x = h2 12 7 1 ∧ g = h2) (qX12_thrown G l _ _ _ ⟨rfl, rfl⟩) mo_X12_thrown ml_L_98 (by rfl) rfl rfl (as := []) rfl rfl rfl rfl rfl ⟨by show n + 3 ≤ 601024; omega, by show 6 * (n + 3) ≤ 7293034; omega⟩ dL_law_1507 (fun x3 h3 he => ?_)
  obtain ⟨e3, e4⟩ := he
  subst e4
  refine V.iload hc dL_law_1510 rfl ?_
  obtain ⟨b1, b2, b3⟩ := hb
  refine V.icmp_eqT hc (tgt := 1517) dL_law_1512 (by decide) (e3.trans b1) ?_
  refine V.iload hc dL_law_1517 rfl ?_
  refine V.if_ne hc (tgt := 1534) dL_law_1519 (by decide) (by unfold inR; omega) (fun _ => ?_) (fun z => ?_)
  · refine V.goto hc (tgt := 2109) dL_law_1534 (by decide) ?_
    exact V.drop (lo' := [(3, 0), (21, 0), (22, 7), (87, 8), (0, i), (1, 0), (1, 0)]) ⟨Or.inr rfl, Or.inr rfl, Or.inr rfl, Or.inr rfl, Or.inr rfl, Or.inl rfl, Or.inl rfl, trivial⟩ (kk h3 (n + 3) b3 (by omega))
  · refine V.aload_n (t := 77) hc dL_law_1522 rfl rfl ?_
    refine V.iconst hc dL_law_1523 ?_
    refine V.jld hc (by omega) dL_law_1524 ?_
    refine V.iload hc dL_law_1525 rfl ?_
    refine V.i2lN hc dL_law_1527 ?_
    refine V.lcmpT hc (b2 (by omega)) dL_law_1528 ?_
    refine V.if_eq hc (tgt := 1534) dL_law_1529 (by decide) inR_0 (fun _ => ?_) (fun z => absurd rfl z)
    refine V.goto hc (tgt := 2109) dL_law_1534 (by decide) ?_
    exact V.drop (lo' := [(3, 0), (21, 0), (22, 7), (87, 8), (0, i), (1, 0), (1, 0)]) ⟨Or.inr rfl, Or.inr rfl, Or.inr rfl, Or.inr rfl, Or.inr rfl, Or.inl rfl, Or.inl rfl, trivial⟩ (kk h3 (n + 3) b3 (by omega))
theorem cs_24 {G : GG} {p : Program} {l : Launch} {e : Jvm.Env} {s : State} {m : MethodId} {args : Array Value} {below : List Frame} {meth : Method} {c : Code} {Q : State → Prop} {i K : Int} {h : HP} {n : Nat} (hlf : l.stackTraces = false) (hc : VL G p s m args meth c) (hi : 0 ≤ i) (hL : i + 5 < (G.2.2.1 11 : Nat)) (hn : n + 4 ≤ 90000 + 4 * 520) (hK : 0 ≤ K) (iv : IV h K) (kk : ∀ h' n', IV h' (K + 1) → n' ≤ n + 4 → V G p l e room_1 s m args below meth c Q 7 2109 [(3, 0), (21, 0), (22, 7), (87, 8), (0, i), (1, 0), (1, 0)] [] h' n') : V G p l e room_1 s m args below meth c Q 7 1537 [(3, 0), (21, 0), (22, 7), (87, 8), (0, i), (1, 0), (1, 0)] [] h n := by
  have hL7 : (G.2.2.1 11 : Int) ≤ 3072 := by have := hc.2.2.2.2.2.1.2.2.2.2.2.1; omega
  refine V.aload_n (t := 11) hc dL_law_1537 rfl rfl ?_
  refine V.aloadC_n hc dL_law_1538 rfl rfl ?_
  refine V.iload hc dL_law_1539 rfl ?_
  refine V.iconst hc dL_law_1541 ?_
  refine V.iadd hc dL_law_1542 ?_
  refine V.sld hc (by omega) dL_law_1543 ?_
  refine V.aloadC_n hc dL_law_1544 rfl rfl ?_
  refine V.iload hc dL_law_1545 rfl ?_
  refine V.iconst hc dL_law_1547 ?_
  refine V.iadd hc dL_law_1548 ?_
  refine V.sld hc (by omega) dL_law_1549 ?_
  refine V.aload_n (t := 77) hc dL_law_1550 rfl rfl ?_
  refine V.callSw hc (qL_blocked G l hlf (scA G (i + 1)) (scA G (i + 2)) h (fun kk g => wX12_blocked 7 (scA G (i + 1)) (scA G (i + 2)) g (Bk (fun g => IV g (K + 1)) kk)) (sq_blocked iv scA_in scA_in (fun _ q => q))) mw_L_blocked ml_L_179 (as := [(21, 0), (0, scA G (i + 1)), (0, scA G (i + 2)), (87, 8)]) rfl rfl rfl rfl rfl ⟨by show n + 2 ≤ 601024; omega, by show 6 * n + 6 * 2 ≤ 7293034; omega⟩ dL_law_1551 (fun x1 h1 hw => ?_)
  obtain ⟨rx, hw⟩ := hw
  refine V.istore hc dL_law_1554 rfl (lo' := [(3, 0), (21, 0), (22, 7), (87, 8), (0, i), (0, x1), (1, 0)]) rfl ?_
  refine V.aload_n (t := 12) hc dL_law_1556 rfl rfl ?_
  refine V.aloadC_n hc dL_law_1557 rfl rfl ?_
  refine V.iload hc dL_law_1558 rfl ?_
  refine V.iconst hc dL_law_1560 ?_
  refine V.iadd hc dL_law_1561 ?_
  refine V.sld hc (by omega) dL_law_1562 ?_
  refine V.aloadC_n hc dL_law_1563 rfl rfl ?_
  refine V.iload hc dL_law_1564 rfl ?_
  refine V.iconst hc dL_law_1566 ?_
  refine V.iadd hc dL_law_1567 ?_
  refine V.sld hc (by omega) dL_law_1568 ?_
  refine V.callVI hc (qX12_blocked G l _ _ _ _ _ hw) mo_X12_blocked ml_L_181 (by rfl) rfl rfl (as := [(0, scA G (i + 1)), (0, scA G (i + 2))]) rfl rfl rfl rfl rfl ⟨by show n + 2 ≤ 601024; omega, by show 6 * (n + 2) ≤ 7293034; omega⟩ dL_law_1569 (fun x2 h2 hb => ?_)
  refine V.istore hc dL_law_1572 rfl (lo' := [(3, 0), (21, 0), (22, 7), (87, 8), (0, i), (0, x1), (0, x2)]) rfl ?_
  refine V.aload_n (t := 12) hc dL_law_1574 rfl rfl ?_
  refine V.callVI hc (P := fun x g => x = h2 12 7 1 ∧ g = h2) (qX12_thrown G l _ _ _ ⟨rfl, rfl⟩) mo_X12_thrown ml_L_98 (by rfl) rfl rfl (as := []) rfl rfl rfl rfl rfl ⟨by show n + 2 ≤ 601024; omega, by show 6 * (n + 2) ≤ 7293034; omega⟩ dL_law_1575 (fun x3 h3 he => ?_)
  obtain ⟨e3, e4⟩ := he
  subst e4
  refine V.iload hc dL_law_1578 rfl ?_
  obtain ⟨b1, b2, b3⟩ := hb
  refine V.icmp_eqT hc (tgt := 1585) dL_law_1580 (by decide) (e3.trans b1) ?_
  refine V.iload hc dL_law_1585 rfl ?_
  refine V.if_ne hc (tgt := 1602) dL_law_1587 (by decide) (by unfold inR; omega) (fun _ => ?_) (fun z => ?_)
  · refine V.goto hc (tgt := 2109) dL_law_1602 (by decide) ?_
    exact V.drop (lo' := [(3, 0), (21, 0), (22, 7), (87, 8), (0, i), (1, 0), (1, 0)]) ⟨Or.inr rfl, Or.inr rfl, Or.inr rfl, Or.inr rfl, Or.inr rfl, Or.inl rfl, Or.inl rfl, trivial⟩ (kk h3 (n + 2) b3 (by omega))
  · refine V.aload_n (t := 77) hc dL_law_1590 rfl rfl ?_
    refine V.iconst hc dL_law_1591 ?_
    refine V.jld hc (by omega) dL_law_1592 ?_
    refine V.iload hc dL_law_1593 rfl ?_
    refine V.i2lN hc dL_law_1595 ?_
    refine V.lcmpT hc (b2 (by omega)) dL_law_1596 ?_
    refine V.if_eq hc (tgt := 1602) dL_law_1597 (by decide) inR_0 (fun _ => ?_) (fun z => absurd rfl z)
    refine V.goto hc (tgt := 2109) dL_law_1602 (by decide) ?_
    exact V.drop (lo' := [(3, 0), (21, 0), (22, 7), (87, 8), (0, i), (1, 0), (1, 0)]) ⟨Or.inr rfl, Or.inr rfl, Or.inr rfl, Or.inr rfl, Or.inr rfl, Or.inl rfl, Or.inl rfl, trivial⟩ (kk h3 (n + 2) b3 (by omega))
theorem cs_25 {G : GG} {p : Program} {l : Launch} {e : Jvm.Env} {s : State} {m : MethodId} {args : Array Value} {below : List Frame} {meth : Method} {c : Code} {Q : State → Prop} {i K : Int} {h : HP} {n : Nat} (hlf : l.stackTraces = false) (hc : VL G p s m args meth c) (hi : 0 ≤ i) (hL : i + 5 < (G.2.2.1 11 : Nat)) (hn : n + 4 ≤ 90000 + 4 * 520) (hK : 0 ≤ K) (iv : IV h K) (kk : ∀ h' n', IV h' (K + 1) → n' ≤ n + 4 → V G p l e room_1 s m args below meth c Q 7 2109 [(3, 0), (21, 0), (22, 7), (87, 8), (0, i), (1, 0), (1, 0)] [] h' n') : V G p l e room_1 s m args below meth c Q 7 1605 [(3, 0), (21, 0), (22, 7), (87, 8), (0, i), (1, 0), (1, 0)] [] h n := by
  have hL7 : (G.2.2.1 11 : Int) ≤ 3072 := by have := hc.2.2.2.2.2.1.2.2.2.2.2.1; omega
  refine V.aload_n (t := 11) hc dL_law_1605 rfl rfl ?_
  refine V.aloadC_n hc dL_law_1606 rfl rfl ?_
  refine V.iload hc dL_law_1607 rfl ?_
  refine V.iconst hc dL_law_1609 ?_
  refine V.iadd hc dL_law_1610 ?_
  refine V.sld hc (by omega) dL_law_1611 ?_
  refine V.aloadC_n hc dL_law_1612 rfl rfl ?_
  refine V.iload hc dL_law_1613 rfl ?_
  refine V.iconst hc dL_law_1615 ?_
  refine V.iadd hc dL_law_1616 ?_
  refine V.sld hc (by omega) dL_law_1617 ?_
  refine V.aload_n (t := 77) hc dL_law_1618 rfl rfl ?_
  refine V.callSw hc (qL_spread G l hlf (scA G (i + 1)) (scA G (i + 2)) h (fun kk g => wX12_spread 7 (scA G (i + 1)) (scA G (i + 2)) g (Bk (fun g => IV g (K + 1)) kk)) (sq_spread iv scA_in scA_in (fun _ q => q))) mw_L_spread ml_L_182 (as := [(21, 0), (0, scA G (i + 1)), (0, scA G (i + 2)), (87, 8)]) rfl rfl rfl rfl rfl ⟨by show n + 2 ≤ 601024; omega, by show 6 * n + 6 * 2 ≤ 7293034; omega⟩ dL_law_1619 (fun x1 h1 hw => ?_)
  obtain ⟨rx, hw⟩ := hw
  refine V.istore hc dL_law_1622 rfl (lo' := [(3, 0), (21, 0), (22, 7), (87, 8), (0, i), (0, x1), (1, 0)]) rfl ?_
  refine V.aload_n (t := 12) hc dL_law_1624 rfl rfl ?_
  refine V.aloadC_n hc dL_law_1625 rfl rfl ?_
  refine V.iload hc dL_law_1626 rfl ?_
  refine V.iconst hc dL_law_1628 ?_
  refine V.iadd hc dL_law_1629 ?_
  refine V.sld hc (by omega) dL_law_1630 ?_
  refine V.aloadC_n hc dL_law_1631 rfl rfl ?_
  refine V.iload hc dL_law_1632 rfl ?_
  refine V.iconst hc dL_law_1634 ?_
  refine V.iadd hc dL_law_1635 ?_
  refine V.sld hc (by omega) dL_law_1636 ?_
  refine V.callVI hc (qX12_spread G l _ _ _ _ _ hw) mo_X12_spread ml_L_184 (by rfl) rfl rfl (as := [(0, scA G (i + 1)), (0, scA G (i + 2))]) rfl rfl rfl rfl rfl ⟨by show n + 2 ≤ 601024; omega, by show 6 * (n + 2) ≤ 7293034; omega⟩ dL_law_1637 (fun x2 h2 hb => ?_)
  refine V.istore hc dL_law_1640 rfl (lo' := [(3, 0), (21, 0), (22, 7), (87, 8), (0, i), (0, x1), (0, x2)]) rfl ?_
  refine V.aload_n (t := 12) hc dL_law_1642 rfl rfl ?_
  refine V.callVI hc (P := fun x g => x = h2 12 7 1 ∧ g = h2) (qX12_thrown G l _ _ _ ⟨rfl, rfl⟩) mo_X12_thrown ml_L_98 (by rfl) rfl rfl (as := []) rfl rfl rfl rfl rfl ⟨by show n + 2 ≤ 601024; omega, by show 6 * (n + 2) ≤ 7293034; omega⟩ dL_law_1643 (fun x3 h3 he => ?_)
  obtain ⟨e3, e4⟩ := he
  subst e4
  refine V.iload hc dL_law_1646 rfl ?_
  obtain ⟨b1, b2, b3⟩ := hb
  refine V.icmp_eqT hc (tgt := 1653) dL_law_1648 (by decide) (e3.trans b1) ?_
  refine V.iload hc dL_law_1653 rfl ?_
  refine V.if_ne hc (tgt := 1670) dL_law_1655 (by decide) (by unfold inR; omega) (fun _ => ?_) (fun z => ?_)
  · refine V.goto hc (tgt := 2109) dL_law_1670 (by decide) ?_
    exact V.drop (lo' := [(3, 0), (21, 0), (22, 7), (87, 8), (0, i), (1, 0), (1, 0)]) ⟨Or.inr rfl, Or.inr rfl, Or.inr rfl, Or.inr rfl, Or.inr rfl, Or.inl rfl, Or.inl rfl, trivial⟩ (kk h3 (n + 2) b3 (by omega))
  · refine V.aload_n (t := 77) hc dL_law_1658 rfl rfl ?_
    refine V.iconst hc dL_law_1659 ?_
    refine V.jld hc (by omega) dL_law_1660 ?_
    refine V.iload hc dL_law_1661 rfl ?_
    refine V.i2lN hc dL_law_1663 ?_
    refine V.lcmpT hc (b2 (by omega)) dL_law_1664 ?_
    refine V.if_eq hc (tgt := 1670) dL_law_1665 (by decide) inR_0 (fun _ => ?_) (fun z => absurd rfl z)
    refine V.goto hc (tgt := 2109) dL_law_1670 (by decide) ?_
    exact V.drop (lo' := [(3, 0), (21, 0), (22, 7), (87, 8), (0, i), (1, 0), (1, 0)]) ⟨Or.inr rfl, Or.inr rfl, Or.inr rfl, Or.inr rfl, Or.inr rfl, Or.inl rfl, Or.inl rfl, trivial⟩ (kk h3 (n + 2) b3 (by omega))
theorem cs_26 {G : GG} {p : Program} {l : Launch} {e : Jvm.Env} {s : State} {m : MethodId} {args : Array Value} {below : List Frame} {meth : Method} {c : Code} {Q : State → Prop} {i K : Int} {h : HP} {n : Nat} (hlf : l.stackTraces = false) (hc : VL G p s m args meth c) (hi : 0 ≤ i) (hL : i + 5 < (G.2.2.1 11 : Nat)) (hn : n + 4 ≤ 90000 + 4 * 520) (hK : 0 ≤ K) (iv : IV h K) (kk : ∀ h' n', IV h' (K + 1) → n' ≤ n + 4 → V G p l e room_1 s m args below meth c Q 7 2109 [(3, 0), (21, 0), (22, 7), (87, 8), (0, i), (1, 0), (1, 0)] [] h' n') : V G p l e room_1 s m args below meth c Q 7 1673 [(3, 0), (21, 0), (22, 7), (87, 8), (0, i), (1, 0), (1, 0)] [] h n := by
  have hL7 : (G.2.2.1 11 : Int) ≤ 3072 := by have := hc.2.2.2.2.2.1.2.2.2.2.2.1; omega
  refine V.aload_n (t := 11) hc dL_law_1673 rfl rfl ?_
  refine V.aloadC_n hc dL_law_1674 rfl rfl ?_
  refine V.iload hc dL_law_1675 rfl ?_
  refine V.iconst hc dL_law_1677 ?_
  refine V.iadd hc dL_law_1678 ?_
  refine V.sld hc (by omega) dL_law_1679 ?_
  refine V.aloadC_n hc dL_law_1680 rfl rfl ?_
  refine V.iload hc dL_law_1681 rfl ?_
  refine V.iconst hc dL_law_1683 ?_
  refine V.iadd hc dL_law_1684 ?_
  refine V.sld hc (by omega) dL_law_1685 ?_
  refine V.aloadC_n hc dL_law_1686 rfl rfl ?_
  refine V.iload hc dL_law_1687 rfl ?_
  refine V.iconst hc dL_law_1689 ?_
  refine V.iadd hc dL_law_1690 ?_
  refine V.sld hc (by omega) dL_law_1691 ?_
  refine V.callVI hc (qX11_note G l _ _ _ _ _ _ (sp_note iv scA_in scA_in scA_in (fun _ q => q))) mo_X11_note ml_L_185 (by rfl) rfl rfl (as := [(0, scA G (i + 1)), (0, scA G (i + 2)), (0, scA G (i + 3))]) rfl rfl rfl rfl rfl ⟨by show n ≤ 601024; omega, by show 6 * n ≤ 7293034; omega⟩ dL_law_1692 (fun x1 h1 hw => ?_)
  refine V.aload_n (t := 12) hc dL_law_1695 rfl rfl ?_
  refine V.aloadC_n hc dL_law_1696 rfl rfl ?_
  refine V.iload hc dL_law_1697 rfl ?_
  refine V.iconst hc dL_law_1699 ?_
  refine V.iadd hc dL_law_1700 ?_
  refine V.sld hc (by omega) dL_law_1701 ?_
  refine V.aloadC_n hc dL_law_1702 rfl rfl ?_
  refine V.iload hc dL_law_1703 rfl ?_
  refine V.iconst hc dL_law_1705 ?_
  refine V.iadd hc dL_law_1706 ?_
  refine V.sld hc (by omega) dL_law_1707 ?_
  refine V.aloadC_n hc dL_law_1708 rfl rfl ?_
  refine V.iload hc dL_law_1709 rfl ?_
  refine V.iconst hc dL_law_1711 ?_
  refine V.iadd hc dL_law_1712 ?_
  refine V.sld hc (by omega) dL_law_1713 ?_
  refine V.callVI hc (qX12_note G l _ _ _ _ _ _ hw) mo_X12_note ml_L_188 (by rfl) rfl rfl (as := [(0, scA G (i + 1)), (0, scA G (i + 2)), (0, scA G (i + 3))]) rfl rfl rfl rfl rfl ⟨by show n ≤ 601024; omega, by show 6 * (n) ≤ 7293034; omega⟩ dL_law_1714 (fun x2 h2 hb => ?_)
  refine V.icmp_eqT hc (tgt := 2109) dL_law_1717 (by decide) hb.1 ?_
  exact kk h2 n hb.2 (by omega)
theorem cs_27 {G : GG} {p : Program} {l : Launch} {e : Jvm.Env} {s : State} {m : MethodId} {args : Array Value} {below : List Frame} {meth : Method} {c : Code} {Q : State → Prop} {i K : Int} {h : HP} {n : Nat} (hlf : l.stackTraces = false) (hc : VL G p s m args meth c) (hi : 0 ≤ i) (hL : i + 5 < (G.2.2.1 11 : Nat)) (hn : n + 4 ≤ 90000 + 4 * 520) (hK : 0 ≤ K) (iv : IV h K) (kk : ∀ h' n', IV h' (K + 1) → n' ≤ n + 4 → V G p l e room_1 s m args below meth c Q 7 2109 [(3, 0), (21, 0), (22, 7), (87, 8), (0, i), (1, 0), (1, 0)] [] h' n') : V G p l e room_1 s m args below meth c Q 7 1722 [(3, 0), (21, 0), (22, 7), (87, 8), (0, i), (1, 0), (1, 0)] [] h n := by
  have hL7 : (G.2.2.1 11 : Int) ≤ 3072 := by have := hc.2.2.2.2.2.1.2.2.2.2.2.1; omega
  refine V.aload_n (t := 11) hc dL_law_1722 rfl rfl ?_
  refine V.aloadC_n hc dL_law_1723 rfl rfl ?_
  refine V.iload hc dL_law_1724 rfl ?_
  refine V.iconst hc dL_law_1726 ?_
  refine V.iadd hc dL_law_1727 ?_
  refine V.sld hc (by omega) dL_law_1728 ?_
  refine V.aload_n (t := 77) hc dL_law_1729 rfl rfl ?_
  refine V.callSw hc (qL_other G l hlf (scA G (i + 1)) h (fun kk g => wX12_other 7 (scA G (i + 1)) g (Bk (fun g => IV g (K + 1)) kk)) (sq_other iv scA_in (fun _ q => q))) mw_L_other ml_L_189 (as := [(21, 0), (0, scA G (i + 1)), (87, 8)]) rfl rfl rfl rfl rfl ⟨by show n + 1 ≤ 601024; omega, by show 6 * n + 6 * 1 ≤ 7293034; omega⟩ dL_law_1730 (fun x1 h1 hw => ?_)
  obtain ⟨rx, hw⟩ := hw
  refine V.istore hc dL_law_1733 rfl (lo' := [(3, 0), (21, 0), (22, 7), (87, 8), (0, i), (0, x1), (1, 0)]) rfl ?_
  refine V.aload_n (t := 12) hc dL_law_1735 rfl rfl ?_
  refine V.aloadC_n hc dL_law_1736 rfl rfl ?_
  refine V.iload hc dL_law_1737 rfl ?_
  refine V.iconst hc dL_law_1739 ?_
  refine V.iadd hc dL_law_1740 ?_
  refine V.sld hc (by omega) dL_law_1741 ?_
  refine V.callVI hc (qX12_other G l _ _ _ _ hw) mo_X12_other ml_L_191 (by rfl) rfl rfl (as := [(0, scA G (i + 1))]) rfl rfl rfl rfl rfl ⟨by show n + 1 ≤ 601024; omega, by show 6 * (n + 1) ≤ 7293034; omega⟩ dL_law_1742 (fun x2 h2 hb => ?_)
  refine V.istore hc dL_law_1745 rfl (lo' := [(3, 0), (21, 0), (22, 7), (87, 8), (0, i), (0, x1), (0, x2)]) rfl ?_
  refine V.aload_n (t := 12) hc dL_law_1747 rfl rfl ?_
  refine V.callVI hc (P := fun x g => x = h2 12 7 1 ∧ g = h2) (qX12_thrown G l _ _ _ ⟨rfl, rfl⟩) mo_X12_thrown ml_L_98 (by rfl) rfl rfl (as := []) rfl rfl rfl rfl rfl ⟨by show n + 1 ≤ 601024; omega, by show 6 * (n + 1) ≤ 7293034; omega⟩ dL_law_1748 (fun x3 h3 he => ?_)
  obtain ⟨e3, e4⟩ := he
  subst e4
  refine V.iload hc dL_law_1751 rfl ?_
  obtain ⟨b1, b2, b3⟩ := hb
  refine V.icmp_eqT hc (tgt := 1758) dL_law_1753 (by decide) (e3.trans b1) ?_
  refine V.iload hc dL_law_1758 rfl ?_
  refine V.if_ne hc (tgt := 1775) dL_law_1760 (by decide) (by unfold inR; omega) (fun _ => ?_) (fun z => ?_)
  · refine V.goto hc (tgt := 2109) dL_law_1775 (by decide) ?_
    exact V.drop (lo' := [(3, 0), (21, 0), (22, 7), (87, 8), (0, i), (1, 0), (1, 0)]) ⟨Or.inr rfl, Or.inr rfl, Or.inr rfl, Or.inr rfl, Or.inr rfl, Or.inl rfl, Or.inl rfl, trivial⟩ (kk h3 (n + 1) b3 (by omega))
  · refine V.aload_n (t := 77) hc dL_law_1763 rfl rfl ?_
    refine V.iconst hc dL_law_1764 ?_
    refine V.jld hc (by omega) dL_law_1765 ?_
    refine V.iload hc dL_law_1766 rfl ?_
    refine V.i2lN hc dL_law_1768 ?_
    refine V.lcmpT hc (b2 (by omega)) dL_law_1769 ?_
    refine V.if_eq hc (tgt := 1775) dL_law_1770 (by decide) inR_0 (fun _ => ?_) (fun z => absurd rfl z)
    refine V.goto hc (tgt := 2109) dL_law_1775 (by decide) ?_
    exact V.drop (lo' := [(3, 0), (21, 0), (22, 7), (87, 8), (0, i), (1, 0), (1, 0)]) ⟨Or.inr rfl, Or.inr rfl, Or.inr rfl, Or.inr rfl, Or.inr rfl, Or.inl rfl, Or.inl rfl, trivial⟩ (kk h3 (n + 1) b3 (by omega))
theorem cs_28 {G : GG} {p : Program} {l : Launch} {e : Jvm.Env} {s : State} {m : MethodId} {args : Array Value} {below : List Frame} {meth : Method} {c : Code} {Q : State → Prop} {i K : Int} {h : HP} {n : Nat} (hlf : l.stackTraces = false) (hc : VL G p s m args meth c) (hi : 0 ≤ i) (hL : i + 5 < (G.2.2.1 11 : Nat)) (hn : n + 4 ≤ 90000 + 4 * 520) (hK : 0 ≤ K) (iv : IV h K) (kk : ∀ h' n', IV h' (K + 1) → n' ≤ n + 4 → V G p l e room_1 s m args below meth c Q 7 2109 [(3, 0), (21, 0), (22, 7), (87, 8), (0, i), (1, 0), (1, 0)] [] h' n') : V G p l e room_1 s m args below meth c Q 7 1778 [(3, 0), (21, 0), (22, 7), (87, 8), (0, i), (1, 0), (1, 0)] [] h n := by
  have hL7 : (G.2.2.1 11 : Int) ≤ 3072 := by have := hc.2.2.2.2.2.1.2.2.2.2.2.1; omega
  refine V.aload_n (t := 11) hc dL_law_1778 rfl rfl ?_
  refine V.aloadC_n hc dL_law_1779 rfl rfl ?_
  refine V.iload hc dL_law_1780 rfl ?_
  refine V.iconst hc dL_law_1782 ?_
  refine V.iadd hc dL_law_1783 ?_
  refine V.sld hc (by omega) dL_law_1784 ?_
  refine V.aload_n (t := 77) hc dL_law_1785 rfl rfl ?_
  refine V.callSw hc (qL_look G l hlf (scA G (i + 1)) h (fun kk g => wX12_look 7 (scA G (i + 1)) g (Bk (fun g => IV g (K + 1)) kk)) (sq_look iv scA_in (fun _ q => q))) mw_L_look ml_L_192 (as := [(21, 0), (0, scA G (i + 1)), (87, 8)]) rfl rfl rfl rfl rfl ⟨by show n + 1 ≤ 601024; omega, by show 6 * n + 6 * 1 ≤ 7293034; omega⟩ dL_law_1786 (fun x1 h1 hw => ?_)
  obtain ⟨rx, hw⟩ := hw
  refine V.istore hc dL_law_1789 rfl (lo' := [(3, 0), (21, 0), (22, 7), (87, 8), (0, i), (0, x1), (1, 0)]) rfl ?_
  refine V.aload_n (t := 12) hc dL_law_1791 rfl rfl ?_
  refine V.aloadC_n hc dL_law_1792 rfl rfl ?_
  refine V.iload hc dL_law_1793 rfl ?_
  refine V.iconst hc dL_law_1795 ?_
  refine V.iadd hc dL_law_1796 ?_
  refine V.sld hc (by omega) dL_law_1797 ?_
  refine V.callVI hc (qX12_look G l _ _ _ _ hw) mo_X12_look ml_L_194 (by rfl) rfl rfl (as := [(0, scA G (i + 1))]) rfl rfl rfl rfl rfl ⟨by show n + 1 ≤ 601024; omega, by show 6 * (n + 1) ≤ 7293034; omega⟩ dL_law_1798 (fun x2 h2 hb => ?_)
  refine V.istore hc dL_law_1801 rfl (lo' := [(3, 0), (21, 0), (22, 7), (87, 8), (0, i), (0, x1), (0, x2)]) rfl ?_
  refine V.aload_n (t := 12) hc dL_law_1803 rfl rfl ?_
  refine V.callVI hc (P := fun x g => x = h2 12 7 1 ∧ g = h2) (qX12_thrown G l _ _ _ ⟨rfl, rfl⟩) mo_X12_thrown ml_L_98 (by rfl) rfl rfl (as := []) rfl rfl rfl rfl rfl ⟨by show n + 1 ≤ 601024; omega, by show 6 * (n + 1) ≤ 7293034; omega⟩ dL_law_1804 (fun x3 h3 he => ?_)
  obtain ⟨e3, e4⟩ := he
  subst e4
  refine V.iload hc dL_law_1807 rfl ?_
  obtain ⟨b1, b2, b3⟩ := hb
  refine V.icmp_eqT hc (tgt := 1814) dL_law_1809 (by decide) (e3.trans b1) ?_
  refine V.iload hc dL_law_1814 rfl ?_
  refine V.if_ne hc (tgt := 1831) dL_law_1816 (by decide) (by unfold inR; omega) (fun _ => ?_) (fun z => ?_)
  · refine V.goto hc (tgt := 2109) dL_law_1831 (by decide) ?_
    exact V.drop (lo' := [(3, 0), (21, 0), (22, 7), (87, 8), (0, i), (1, 0), (1, 0)]) ⟨Or.inr rfl, Or.inr rfl, Or.inr rfl, Or.inr rfl, Or.inr rfl, Or.inl rfl, Or.inl rfl, trivial⟩ (kk h3 (n + 1) b3 (by omega))
  · refine V.aload_n (t := 77) hc dL_law_1819 rfl rfl ?_
    refine V.iconst hc dL_law_1820 ?_
    refine V.jld hc (by omega) dL_law_1821 ?_
    refine V.iload hc dL_law_1822 rfl ?_
    refine V.i2lN hc dL_law_1824 ?_
    refine V.lcmpT hc (b2 (by omega)) dL_law_1825 ?_
    refine V.if_eq hc (tgt := 1831) dL_law_1826 (by decide) inR_0 (fun _ => ?_) (fun z => absurd rfl z)
    refine V.goto hc (tgt := 2109) dL_law_1831 (by decide) ?_
    exact V.drop (lo' := [(3, 0), (21, 0), (22, 7), (87, 8), (0, i), (1, 0), (1, 0)]) ⟨Or.inr rfl, Or.inr rfl, Or.inr rfl, Or.inr rfl, Or.inr rfl, Or.inl rfl, Or.inl rfl, trivial⟩ (kk h3 (n + 1) b3 (by omega))
theorem cs_29 {G : GG} {p : Program} {l : Launch} {e : Jvm.Env} {s : State} {m : MethodId} {args : Array Value} {below : List Frame} {meth : Method} {c : Code} {Q : State → Prop} {i K : Int} {h : HP} {n : Nat} (hlf : l.stackTraces = false) (hc : VL G p s m args meth c) (hi : 0 ≤ i) (hL : i + 5 < (G.2.2.1 11 : Nat)) (hn : n + 4 ≤ 90000 + 4 * 520) (hK : 0 ≤ K) (iv : IV h K) (kk : ∀ h' n', IV h' (K + 1) → n' ≤ n + 4 → V G p l e room_1 s m args below meth c Q 7 2109 [(3, 0), (21, 0), (22, 7), (87, 8), (0, i), (1, 0), (1, 0)] [] h' n') : V G p l e room_1 s m args below meth c Q 7 1834 [(3, 0), (21, 0), (22, 7), (87, 8), (0, i), (1, 0), (1, 0)] [] h n := by
  have hL7 : (G.2.2.1 11 : Int) ≤ 3072 := by have := hc.2.2.2.2.2.1.2.2.2.2.2.1; omega
  refine V.aload_n (t := 11) hc dL_law_1834 rfl rfl ?_
  refine V.callVV hc (qX11_forget G l _ _ _ (sp_forget iv  (fun _ q => q))) mo_X11_forget ml_L_195 (by rfl) rfl rfl (as := []) rfl rfl rfl rfl rfl ⟨by show n ≤ 601024; omega, by show 6 * n ≤ 7293034; omega⟩ dL_law_1835 (fun h1 hw => ?_)
  refine V.aload_n (t := 12) hc dL_law_1838 rfl rfl ?_
  refine V.callVV hc (qX12_forget G l _ _ _ hw) mo_X12_forget ml_L_198 (by rfl) rfl rfl (as := []) rfl rfl rfl rfl rfl ⟨by show n ≤ 601024; omega, by show 6 * n ≤ 7293034; omega⟩ dL_law_1839 (fun h2 hb => ?_)
  refine V.goto hc (tgt := 2109) dL_law_1842 (by decide) ?_
  exact kk h2 n hb (by omega)
theorem cs_30 {G : GG} {p : Program} {l : Launch} {e : Jvm.Env} {s : State} {m : MethodId} {args : Array Value} {below : List Frame} {meth : Method} {c : Code} {Q : State → Prop} {i K : Int} {h : HP} {n : Nat} (hlf : l.stackTraces = false) (hc : VL G p s m args meth c) (hi : 0 ≤ i) (hL : i + 5 < (G.2.2.1 11 : Nat)) (hn : n + 4 ≤ 90000 + 4 * 520) (hK : 0 ≤ K) (iv : IV h K) (kk : ∀ h' n', IV h' (K + 1) → n' ≤ n + 4 → V G p l e room_1 s m args below meth c Q 7 2109 [(3, 0), (21, 0), (22, 7), (87, 8), (0, i), (1, 0), (1, 0)] [] h' n') : V G p l e room_1 s m args below meth c Q 7 1845 [(3, 0), (21, 0), (22, 7), (87, 8), (0, i), (1, 0), (1, 0)] [] h n := by
  have hL7 : (G.2.2.1 11 : Int) ≤ 3072 := by have := hc.2.2.2.2.2.1.2.2.2.2.2.1; omega
  refine V.aload_n (t := 11) hc dL_law_1845 rfl rfl ?_
  refine V.aloadC_n hc dL_law_1846 rfl rfl ?_
  refine V.iload hc dL_law_1847 rfl ?_
  refine V.iconst hc dL_law_1849 ?_
  refine V.iadd hc dL_law_1850 ?_
  refine V.sld hc (by omega) dL_law_1851 ?_
  refine V.aloadC_n hc dL_law_1852 rfl rfl ?_
  refine V.iload hc dL_law_1853 rfl ?_
  refine V.iconst hc dL_law_1855 ?_
  refine V.iadd hc dL_law_1856 ?_
  refine V.sld hc (by omega) dL_law_1857 ?_
  refine V.aloadC_n hc dL_law_1858 rfl rfl ?_
  refine V.iload hc dL_law_1859 rfl ?_
  refine V.iconst hc dL_law_1861 ?_
  refine V.iadd hc dL_law_1862 ?_
  refine V.sld hc (by omega) dL_law_1863 ?_
  refine V.aloadC_n hc dL_law_1864 rfl rfl ?_
  refine V.iload hc dL_law_1865 rfl ?_
  refine V.iconst hc dL_law_1867 ?_
  refine V.iadd hc dL_law_1868 ?_
  refine V.sld hc (by omega) dL_law_1869 ?_
  refine V.aload_n (t := 77) hc dL_law_1870 rfl rfl ?_
  refine V.callSw hc (qL_storms G l hlf (scA G (i + 1)) (scA G (i + 2)) (scA G (i + 3)) (scA G (i + 4)) h (fun kk g => wX12_storms 7 (scA G (i + 1)) (scA G (i + 2)) (scA G (i + 3)) (scA G (i + 4)) g (Bk (fun g => IV g (K + 1)) kk)) (sq_storms iv scA_in scA_in scA_in scA_in (fun _ q => q))) mw_L_storms ml_L_199 (as := [(21, 0), (0, scA G (i + 1)), (0, scA G (i + 2)), (0, scA G (i + 3)), (0, scA G (i + 4)), (87, 8)]) rfl rfl rfl rfl rfl ⟨by show n + 3 ≤ 601024; omega, by show 6 * n + 6 * 3 ≤ 7293034; omega⟩ dL_law_1871 (fun x1 h1 hw => ?_)
  obtain ⟨rx, hw⟩ := hw
  refine V.istore hc dL_law_1874 rfl (lo' := [(3, 0), (21, 0), (22, 7), (87, 8), (0, i), (0, x1), (1, 0)]) rfl ?_
  refine V.aload_n (t := 12) hc dL_law_1876 rfl rfl ?_
  refine V.aloadC_n hc dL_law_1877 rfl rfl ?_
  refine V.iload hc dL_law_1878 rfl ?_
  refine V.iconst hc dL_law_1880 ?_
  refine V.iadd hc dL_law_1881 ?_
  refine V.sld hc (by omega) dL_law_1882 ?_
  refine V.aloadC_n hc dL_law_1883 rfl rfl ?_
  refine V.iload hc dL_law_1884 rfl ?_
  refine V.iconst hc dL_law_1886 ?_
  refine V.iadd hc dL_law_1887 ?_
  refine V.sld hc (by omega) dL_law_1888 ?_
  refine V.aloadC_n hc dL_law_1889 rfl rfl ?_
  refine V.iload hc dL_law_1890 rfl ?_
  refine V.iconst hc dL_law_1892 ?_
  refine V.iadd hc dL_law_1893 ?_
  refine V.sld hc (by omega) dL_law_1894 ?_
  refine V.aloadC_n hc dL_law_1895 rfl rfl ?_
  refine V.iload hc dL_law_1896 rfl ?_
  refine V.iconst hc dL_law_1898 ?_
  refine V.iadd hc dL_law_1899 ?_
  refine V.sld hc (by omega) dL_law_1900 ?_
  refine V.callVI hc (qX12_storms G l _ _ _ _ _ _ _ hw) mo_X12_storms ml_L_202 (by rfl) rfl rfl (as := [(0, scA G (i + 1)), (0, scA G (i + 2)), (0, scA G (i + 3)), (0, scA G (i + 4))]) rfl rfl rfl rfl rfl ⟨by show n + 3 ≤ 601024; omega, by show 6 * (n + 3) ≤ 7293034; omega⟩ dL_law_1901 (fun x2 h2 hb => ?_)
  refine V.istore hc dL_law_1904 rfl (lo' := [(3, 0), (21, 0), (22, 7), (87, 8), (0, i), (0, x1), (0, x2)]) rfl ?_
  refine V.aload_n (t := 12) hc dL_law_1906 rfl rfl ?_
  refine V.callVI hc (P := fun x g => x = h2 12 7 1 ∧ g = h2) (qX12_thrown G l _ _ _ ⟨rfl, rfl⟩) mo_X12_thrown ml_L_98 (by rfl) rfl rfl (as := []) rfl rfl rfl rfl rfl ⟨by show n + 3 ≤ 601024; omega, by show 6 * (n + 3) ≤ 7293034; omega⟩ dL_law_1907 (fun x3 h3 he => ?_)
  obtain ⟨e3, e4⟩ := he
  subst e4
  refine V.iload hc dL_law_1910 rfl ?_
  obtain ⟨b1, b2, b3⟩ := hb
  refine V.icmp_eqT hc (tgt := 1917) dL_law_1912 (by decide) (e3.trans b1) ?_
  refine V.iload hc dL_law_1917 rfl ?_
  refine V.if_ne hc (tgt := 1934) dL_law_1919 (by decide) (by unfold inR; omega) (fun _ => ?_) (fun z => ?_)
  · refine V.goto hc (tgt := 2109) dL_law_1934 (by decide) ?_
    exact V.drop (lo' := [(3, 0), (21, 0), (22, 7), (87, 8), (0, i), (1, 0), (1, 0)]) ⟨Or.inr rfl, Or.inr rfl, Or.inr rfl, Or.inr rfl, Or.inr rfl, Or.inl rfl, Or.inl rfl, trivial⟩ (kk h3 (n + 3) b3 (by omega))
  · refine V.aload_n (t := 77) hc dL_law_1922 rfl rfl ?_
    refine V.iconst hc dL_law_1923 ?_
    refine V.jld hc (by omega) dL_law_1924 ?_
    refine V.iload hc dL_law_1925 rfl ?_
    refine V.i2lN hc dL_law_1927 ?_
    refine V.lcmpT hc (b2 (by omega)) dL_law_1928 ?_
    refine V.if_eq hc (tgt := 1934) dL_law_1929 (by decide) inR_0 (fun _ => ?_) (fun z => absurd rfl z)
    refine V.goto hc (tgt := 2109) dL_law_1934 (by decide) ?_
    exact V.drop (lo' := [(3, 0), (21, 0), (22, 7), (87, 8), (0, i), (1, 0), (1, 0)]) ⟨Or.inr rfl, Or.inr rfl, Or.inr rfl, Or.inr rfl, Or.inr rfl, Or.inl rfl, Or.inl rfl, trivial⟩ (kk h3 (n + 3) b3 (by omega))
theorem cs_31 {G : GG} {p : Program} {l : Launch} {e : Jvm.Env} {s : State} {m : MethodId} {args : Array Value} {below : List Frame} {meth : Method} {c : Code} {Q : State → Prop} {i K : Int} {h : HP} {n : Nat} (hlf : l.stackTraces = false) (hc : VL G p s m args meth c) (hi : 0 ≤ i) (hL : i + 5 < (G.2.2.1 11 : Nat)) (hn : n + 4 ≤ 90000 + 4 * 520) (hK : 0 ≤ K) (iv : IV h K) (kk : ∀ h' n', IV h' (K + 1) → n' ≤ n + 4 → V G p l e room_1 s m args below meth c Q 7 2109 [(3, 0), (21, 0), (22, 7), (87, 8), (0, i), (1, 0), (1, 0)] [] h' n') : V G p l e room_1 s m args below meth c Q 7 1937 [(3, 0), (21, 0), (22, 7), (87, 8), (0, i), (1, 0), (1, 0)] [] h n := by
  have hL7 : (G.2.2.1 11 : Int) ≤ 3072 := by have := hc.2.2.2.2.2.1.2.2.2.2.2.1; omega
  refine V.aload_n (t := 11) hc dL_law_1937 rfl rfl ?_
  refine V.aloadC_n hc dL_law_1938 rfl rfl ?_
  refine V.iload hc dL_law_1939 rfl ?_
  refine V.iconst hc dL_law_1941 ?_
  refine V.iadd hc dL_law_1942 ?_
  refine V.sld hc (by omega) dL_law_1943 ?_
  refine V.aloadC_n hc dL_law_1944 rfl rfl ?_
  refine V.iload hc dL_law_1945 rfl ?_
  refine V.iconst hc dL_law_1947 ?_
  refine V.iadd hc dL_law_1948 ?_
  refine V.sld hc (by omega) dL_law_1949 ?_
  refine V.aloadC_n hc dL_law_1950 rfl rfl ?_
  refine V.iload hc dL_law_1951 rfl ?_
  refine V.iconst hc dL_law_1953 ?_
  refine V.iadd hc dL_law_1954 ?_
  refine V.sld hc (by omega) dL_law_1955 ?_
  refine V.aload_n (t := 77) hc dL_law_1956 rfl rfl ?_
  refine V.callSw hc (qL_years G l hlf (scA G (i + 1)) (scA G (i + 2)) (scA G (i + 3)) h (fun kk g => wX12_years 7 (scA G (i + 1)) (scA G (i + 2)) (scA G (i + 3)) g (Bk (fun g => IV g (K + 1)) kk)) (sq_years iv scA_in scA_in scA_in (fun _ q => q))) mw_L_years ml_L_203 (as := [(21, 0), (0, scA G (i + 1)), (0, scA G (i + 2)), (0, scA G (i + 3)), (87, 8)]) rfl rfl rfl rfl rfl ⟨by show n + 2 ≤ 601024; omega, by show 6 * n + 6 * 2 ≤ 7293034; omega⟩ dL_law_1957 (fun x1 h1 hw => ?_)
  obtain ⟨rx, hw⟩ := hw
  refine V.istore hc dL_law_1960 rfl (lo' := [(3, 0), (21, 0), (22, 7), (87, 8), (0, i), (0, x1), (1, 0)]) rfl ?_
  refine V.aload_n (t := 12) hc dL_law_1962 rfl rfl ?_
  refine V.aloadC_n hc dL_law_1963 rfl rfl ?_
  refine V.iload hc dL_law_1964 rfl ?_
  refine V.iconst hc dL_law_1966 ?_
  refine V.iadd hc dL_law_1967 ?_
  refine V.sld hc (by omega) dL_law_1968 ?_
  refine V.aloadC_n hc dL_law_1969 rfl rfl ?_
  refine V.iload hc dL_law_1970 rfl ?_
  refine V.iconst hc dL_law_1972 ?_
  refine V.iadd hc dL_law_1973 ?_
  refine V.sld hc (by omega) dL_law_1974 ?_
  refine V.aloadC_n hc dL_law_1975 rfl rfl ?_
  refine V.iload hc dL_law_1976 rfl ?_
  refine V.iconst hc dL_law_1978 ?_
  refine V.iadd hc dL_law_1979 ?_
  refine V.sld hc (by omega) dL_law_1980 ?_
  refine V.callVI hc (qX12_years G l _ _ _ _ _ _ hw) mo_X12_years ml_L_205 (by rfl) rfl rfl (as := [(0, scA G (i + 1)), (0, scA G (i + 2)), (0, scA G (i + 3))]) rfl rfl rfl rfl rfl ⟨by show n + 2 ≤ 601024; omega, by show 6 * (n + 2) ≤ 7293034; omega⟩ dL_law_1981 (fun x2 h2 hb => ?_)
  refine V.istore hc dL_law_1984 rfl (lo' := [(3, 0), (21, 0), (22, 7), (87, 8), (0, i), (0, x1), (0, x2)]) rfl ?_
  refine V.aload_n (t := 12) hc dL_law_1986 rfl rfl ?_
  refine V.callVI hc (P := fun x g => x = h2 12 7 1 ∧ g = h2) (qX12_thrown G l _ _ _ ⟨rfl, rfl⟩) mo_X12_thrown ml_L_98 (by rfl) rfl rfl (as := []) rfl rfl rfl rfl rfl ⟨by show n + 2 ≤ 601024; omega, by show 6 * (n + 2) ≤ 7293034; omega⟩ dL_law_1987 (fun x3 h3 he => ?_)
  obtain ⟨e3, e4⟩ := he
  subst e4
  refine V.iload hc dL_law_1990 rfl ?_
  obtain ⟨b1, b2, b3⟩ := hb
  refine V.icmp_eqT hc (tgt := 1997) dL_law_1992 (by decide) (e3.trans b1) ?_
  refine V.iload hc dL_law_1997 rfl ?_
  refine V.if_ne hc (tgt := 2014) dL_law_1999 (by decide) (by unfold inR; omega) (fun _ => ?_) (fun z => ?_)
  · refine V.goto hc (tgt := 2109) dL_law_2014 (by decide) ?_
    exact V.drop (lo' := [(3, 0), (21, 0), (22, 7), (87, 8), (0, i), (1, 0), (1, 0)]) ⟨Or.inr rfl, Or.inr rfl, Or.inr rfl, Or.inr rfl, Or.inr rfl, Or.inl rfl, Or.inl rfl, trivial⟩ (kk h3 (n + 2) b3 (by omega))
  · refine V.aload_n (t := 77) hc dL_law_2002 rfl rfl ?_
    refine V.iconst hc dL_law_2003 ?_
    refine V.jld hc (by omega) dL_law_2004 ?_
    refine V.iload hc dL_law_2005 rfl ?_
    refine V.i2lN hc dL_law_2007 ?_
    refine V.lcmpT hc (b2 (by omega)) dL_law_2008 ?_
    refine V.if_eq hc (tgt := 2014) dL_law_2009 (by decide) inR_0 (fun _ => ?_) (fun z => absurd rfl z)
    refine V.goto hc (tgt := 2109) dL_law_2014 (by decide) ?_
    exact V.drop (lo' := [(3, 0), (21, 0), (22, 7), (87, 8), (0, i), (1, 0), (1, 0)]) ⟨Or.inr rfl, Or.inr rfl, Or.inr rfl, Or.inr rfl, Or.inr rfl, Or.inl rfl, Or.inl rfl, trivial⟩ (kk h3 (n + 2) b3 (by omega))
theorem cs_32 {G : GG} {p : Program} {l : Launch} {e : Jvm.Env} {s : State} {m : MethodId} {args : Array Value} {below : List Frame} {meth : Method} {c : Code} {Q : State → Prop} {i K : Int} {h : HP} {n : Nat} (hlf : l.stackTraces = false) (hc : VL G p s m args meth c) (hi : 0 ≤ i) (hL : i + 5 < (G.2.2.1 11 : Nat)) (hn : n + 4 ≤ 90000 + 4 * 520) (hK : 0 ≤ K) (iv : IV h K) (kk : ∀ h' n', IV h' (K + 1) → n' ≤ n + 4 → V G p l e room_1 s m args below meth c Q 7 2109 [(3, 0), (21, 0), (22, 7), (87, 8), (0, i), (1, 0), (1, 0)] [] h' n') : V G p l e room_1 s m args below meth c Q 7 2017 [(3, 0), (21, 0), (22, 7), (87, 8), (0, i), (1, 0), (1, 0)] [] h n := by
  have hL7 : (G.2.2.1 11 : Int) ≤ 3072 := by have := hc.2.2.2.2.2.1.2.2.2.2.2.1; omega
  refine V.aload_n (t := 11) hc dL_law_2017 rfl rfl ?_
  refine V.aloadC_n hc dL_law_2018 rfl rfl ?_
  refine V.iload hc dL_law_2019 rfl ?_
  refine V.iconst hc dL_law_2021 ?_
  refine V.iadd hc dL_law_2022 ?_
  refine V.sld hc (by omega) dL_law_2023 ?_
  refine V.aloadC_n hc dL_law_2024 rfl rfl ?_
  refine V.iload hc dL_law_2025 rfl ?_
  refine V.iconst hc dL_law_2027 ?_
  refine V.iadd hc dL_law_2028 ?_
  refine V.sld hc (by omega) dL_law_2029 ?_
  refine V.aload_n (t := 77) hc dL_law_2030 rfl rfl ?_
  refine V.callSw hc (qL_told G l hlf (scA G (i + 1)) (scA G (i + 2)) h (fun kk g => wX12_told 7 (scA G (i + 1)) (scA G (i + 2)) g (Bk (fun g => IV g (K + 1)) kk)) (sq_told iv scA_in scA_in (fun _ q => q))) mw_L_told ml_L_206 (as := [(21, 0), (0, scA G (i + 1)), (0, scA G (i + 2)), (87, 8)]) rfl rfl rfl rfl rfl ⟨by show n + 2 ≤ 601024; omega, by show 6 * n + 6 * 2 ≤ 7293034; omega⟩ dL_law_2031 (fun x1 h1 hw => ?_)
  obtain ⟨rx, hw⟩ := hw
  refine V.istore hc dL_law_2034 rfl (lo' := [(3, 0), (21, 0), (22, 7), (87, 8), (0, i), (0, x1), (1, 0)]) rfl ?_
  refine V.aload_n (t := 12) hc dL_law_2036 rfl rfl ?_
  refine V.aloadC_n hc dL_law_2037 rfl rfl ?_
  refine V.iload hc dL_law_2038 rfl ?_
  refine V.iconst hc dL_law_2040 ?_
  refine V.iadd hc dL_law_2041 ?_
  refine V.sld hc (by omega) dL_law_2042 ?_
  refine V.aloadC_n hc dL_law_2043 rfl rfl ?_
  refine V.iload hc dL_law_2044 rfl ?_
  refine V.iconst hc dL_law_2046 ?_
  refine V.iadd hc dL_law_2047 ?_
  refine V.sld hc (by omega) dL_law_2048 ?_
  refine V.callVI hc (qX12_told G l _ _ _ _ _ hw) mo_X12_told ml_L_208 (by rfl) rfl rfl (as := [(0, scA G (i + 1)), (0, scA G (i + 2))]) rfl rfl rfl rfl rfl ⟨by show n + 2 ≤ 601024; omega, by show 6 * (n + 2) ≤ 7293034; omega⟩ dL_law_2049 (fun x2 h2 hb => ?_)
  refine V.istore hc dL_law_2052 rfl (lo' := [(3, 0), (21, 0), (22, 7), (87, 8), (0, i), (0, x1), (0, x2)]) rfl ?_
  refine V.aload_n (t := 12) hc dL_law_2054 rfl rfl ?_
  refine V.callVI hc (P := fun x g => x = h2 12 7 1 ∧ g = h2) (qX12_thrown G l _ _ _ ⟨rfl, rfl⟩) mo_X12_thrown ml_L_98 (by rfl) rfl rfl (as := []) rfl rfl rfl rfl rfl ⟨by show n + 2 ≤ 601024; omega, by show 6 * (n + 2) ≤ 7293034; omega⟩ dL_law_2055 (fun x3 h3 he => ?_)
  obtain ⟨e3, e4⟩ := he
  subst e4
  refine V.iload hc dL_law_2058 rfl ?_
  obtain ⟨b1, b2, b3⟩ := hb
  refine V.icmp_eqT hc (tgt := 2065) dL_law_2060 (by decide) (e3.trans b1) ?_
  refine V.iload hc dL_law_2065 rfl ?_
  refine V.if_ne hc (tgt := 2082) dL_law_2067 (by decide) (by unfold inR; omega) (fun _ => ?_) (fun z => ?_)
  · refine V.goto hc (tgt := 2109) dL_law_2082 (by decide) ?_
    exact V.drop (lo' := [(3, 0), (21, 0), (22, 7), (87, 8), (0, i), (1, 0), (1, 0)]) ⟨Or.inr rfl, Or.inr rfl, Or.inr rfl, Or.inr rfl, Or.inr rfl, Or.inl rfl, Or.inl rfl, trivial⟩ (kk h3 (n + 2) b3 (by omega))
  · refine V.aload_n (t := 77) hc dL_law_2070 rfl rfl ?_
    refine V.iconst hc dL_law_2071 ?_
    refine V.jld hc (by omega) dL_law_2072 ?_
    refine V.iload hc dL_law_2073 rfl ?_
    refine V.i2lN hc dL_law_2075 ?_
    refine V.lcmpT hc (b2 (by omega)) dL_law_2076 ?_
    refine V.if_eq hc (tgt := 2082) dL_law_2077 (by decide) inR_0 (fun _ => ?_) (fun z => absurd rfl z)
    refine V.goto hc (tgt := 2109) dL_law_2082 (by decide) ?_
    exact V.drop (lo' := [(3, 0), (21, 0), (22, 7), (87, 8), (0, i), (1, 0), (1, 0)]) ⟨Or.inr rfl, Or.inr rfl, Or.inr rfl, Or.inr rfl, Or.inr rfl, Or.inl rfl, Or.inl rfl, trivial⟩ (kk h3 (n + 2) b3 (by omega))
theorem cs_33 {G : GG} {p : Program} {l : Launch} {e : Jvm.Env} {s : State} {m : MethodId} {args : Array Value} {below : List Frame} {meth : Method} {c : Code} {Q : State → Prop} {i K : Int} {h : HP} {n : Nat} (hlf : l.stackTraces = false) (hc : VL G p s m args meth c) (hi : 0 ≤ i) (hL : i + 5 < (G.2.2.1 11 : Nat)) (hn : n + 4 ≤ 90000 + 4 * 520) (hK : 0 ≤ K) (iv : IV h K) (kk : ∀ h' n', IV h' (K + 1) → n' ≤ n + 4 → V G p l e room_1 s m args below meth c Q 7 2109 [(3, 0), (21, 0), (22, 7), (87, 8), (0, i), (1, 0), (1, 0)] [] h' n') : V G p l e room_1 s m args below meth c Q 7 2085 [(3, 0), (21, 0), (22, 7), (87, 8), (0, i), (1, 0), (1, 0)] [] h n := by
  have hL7 : (G.2.2.1 11 : Int) ≤ 3072 := by have := hc.2.2.2.2.2.1.2.2.2.2.2.1; omega
  refine V.aload_n (t := 11) hc dL_law_2085 rfl rfl ?_
  refine V.callVV hc (qX11_image G l _ _ _ (sp_image iv  (fun _ q => q))) mo_X11_image ml_L_209 (by rfl) rfl rfl (as := []) rfl rfl rfl rfl rfl ⟨by show n ≤ 601024; omega, by show 6 * n ≤ 7293034; omega⟩ dL_law_2086 (fun h1 hw => ?_)
  refine V.aload_n (t := 12) hc dL_law_2089 rfl rfl ?_
  refine V.callVV hc (qX12_image G l _ _ _ hw) mo_X12_image ml_L_212 (by rfl) rfl rfl (as := []) rfl rfl rfl rfl rfl ⟨by show n ≤ 601024; omega, by show 6 * n ≤ 7293034; omega⟩ dL_law_2090 (fun h2 hb => ?_)
  refine V.goto hc (tgt := 2109) dL_law_2093 (by decide) ?_
  exact kk h2 n hb (by omega)
theorem cs_34 {G : GG} {p : Program} {l : Launch} {e : Jvm.Env} {s : State} {m : MethodId} {args : Array Value} {below : List Frame} {meth : Method} {c : Code} {Q : State → Prop} {i K : Int} {h : HP} {n : Nat} (hlf : l.stackTraces = false) (hc : VL G p s m args meth c) (hi : 0 ≤ i) (hL : i + 5 < (G.2.2.1 11 : Nat)) (hn : n + 4 ≤ 90000 + 4 * 520) (hK : 0 ≤ K) (iv : IV h K) (kk : ∀ h' n', IV h' (K + 1) → n' ≤ n + 4 → V G p l e room_1 s m args below meth c Q 7 2109 [(3, 0), (21, 0), (22, 7), (87, 8), (0, i), (1, 0), (1, 0)] [] h' n') : V G p l e room_1 s m args below meth c Q 7 2096 [(3, 0), (21, 0), (22, 7), (87, 8), (0, i), (1, 0), (1, 0)] [] h n := by
  have hL7 : (G.2.2.1 11 : Int) ≤ 3072 := by have := hc.2.2.2.2.2.1.2.2.2.2.2.1; omega
  refine V.aload_n (t := 11) hc dL_law_2096 rfl rfl ?_
  refine V.callVI hc (qX11_restore G l _ _ _ (sp_restore iv  (fun _ q => q))) mo_X11_restore ml_L_213 (by rfl) rfl rfl (as := []) rfl rfl rfl rfl rfl ⟨by show n ≤ 601024; omega, by show 6 * n ≤ 7293034; omega⟩ dL_law_2097 (fun x1 h1 hw => ?_)
  refine V.aload_n (t := 12) hc dL_law_2100 rfl rfl ?_
  refine V.callVI hc (qX12_restore G l _ _ _ hw) mo_X12_restore ml_L_217 (by rfl) rfl rfl (as := []) rfl rfl rfl rfl rfl ⟨by show n ≤ 601024; omega, by show 6 * (n) ≤ 7293034; omega⟩ dL_law_2101 (fun x2 h2 hb => ?_)
  refine V.icmp_eqT hc (tgt := 2109) dL_law_2104 (by decide) hb.1 ?_
  exact kk h2 n hb.2 (by omega)
