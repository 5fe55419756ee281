/-! the law, case by case -/
theorem sk_lcm (a : Int64) : lg_cmp a a = 0 := by
  unfold lg_cmp
  simp
set_option maxRecDepth 100000 in
set_option maxHeartbeats 4000000 in
theorem law_c0 {l : Launch} {nm : String} {L i : Nat} {xs : Nat → Int32} {d : sk_D} (hL : L ≤ 2560) (hi : i + 5 ≤ L) (hR : sk_R d) (kk : ∀ d2, sk_R d2 → sk_G l room_1 (m_law nm) (sk_ExL L xs) sk_ZL 171 56719 1417 [some (.inr (.inr (some (9999, 0)))), some (.inr (.inr (some (0, 0)))), some (.inr (.inr (some (44, 0)))), some (.inl (nI i))] [] (sk_mm d2)) : sk_G l room_1 (m_law nm) (sk_ExL L xs) sk_ZL 171 56719 232 [some (.inr (.inr (some (9999, 0)))), some (.inr (.inr (some (0, 0)))), some (.inr (.inr (some (44, 0)))), some (.inl (nI i))] [] (sk_mm d) := by
  obtain ⟨a, d1, d2, hq1, hq2, hR2⟩ := pz_addPupil hR (xs (i + 1)) (xs (i + 2)) (xs (i + 3))
  refine sg_aload_n 233 (sk_td o_law0 22 rfl) rfl rfl ?_
  refine sg_aload_n 234 (sk_td o_law0 23 rfl) rfl rfl ?_
  refine sg_iload_n 235 (sk_td o_law0 24 rfl) rfl rfl ?_
  refine sg_iconst (v := (1 : Int32)) 236 (sk_td o_law0 25 rfl) rfl (by decide) ?_
  refine sg_iadd 237 (sk_td o_law0 26 rfl) rfl ?_
  refine sg_sld (n := i + 1) 238 (sk_td o_law0 27 rfl) rfl (nI_add i 1) (by omega) hL ?_
  refine sg_aload_n 239 (sk_td o_law0 28 rfl) rfl rfl ?_
  refine sg_iload_n 240 (sk_td o_law0 29 rfl) rfl rfl ?_
  refine sg_iconst (v := (2 : Int32)) 241 (sk_td o_law0 30 rfl) rfl (by decide) ?_
  refine sg_iadd 242 (sk_td o_law0 31 rfl) rfl ?_
  refine sg_sld (n := i + 2) 243 (sk_td o_law0 32 rfl) rfl (nI_add i 2) (by omega) hL ?_
  refine sg_aload_n 244 (sk_td o_law0 33 rfl) rfl rfl ?_
  refine sg_iload_n 245 (sk_td o_law0 34 rfl) rfl rfl ?_
  refine sg_iconst (v := (3 : Int32)) 246 (sk_td o_law0 35 rfl) rfl (by decide) ?_
  refine sg_iadd 247 (sk_td o_law0 36 rfl) rfl ?_
  refine sg_sld (n := i + 3) 248 (sk_td o_law0 37 rfl) rfl (nI_add i 3) (by omega) hL ?_
  refine sm_callL3i 251 (s_X8_addPupil hq1) (sk_td o_law0 38 rfl) rfl lv_L_13 rfl rfl rfl sz_0 ⟨Nat.le_of_ble_eq_true rfl, Nat.le_of_ble_eq_true rfl, Nat.le_of_ble_eq_true rfl, Nat.le_of_ble_eq_true rfl⟩ (Nat.le_of_ble_eq_true rfl) ?_
  refine sg_aload_n 252 (sk_td o_law0 39 rfl) rfl rfl ?_
  refine sg_aload_n 253 (sk_td o_law0 40 rfl) rfl rfl ?_
  refine sg_iload_n 254 (sk_td o_law0 41 rfl) rfl rfl ?_
  refine sg_iconst (v := (1 : Int32)) 255 (sk_td o_law0 42 rfl) rfl (by decide) ?_
  refine sg_iadd 256 (sk_td o_law0 43 rfl) rfl ?_
  refine sg_sld (n := i + 1) 257 (sk_td o_law0 44 rfl) rfl (nI_add i 1) (by omega) hL ?_
  refine sg_aload_n 258 (sk_td o_law0 45 rfl) rfl rfl ?_
  refine sg_iload_n 259 (sk_td o_law0 46 rfl) rfl rfl ?_
  refine sg_iconst (v := (2 : Int32)) 260 (sk_td o_law0 47 rfl) rfl (by decide) ?_
  refine sg_iadd 261 (sk_td o_law0 48 rfl) rfl ?_
  refine sg_sld (n := i + 2) 262 (sk_td o_law0 49 rfl) rfl (nI_add i 2) (by omega) hL ?_
  refine sg_aload_n 263 (sk_td o_law0 50 rfl) rfl rfl ?_
  refine sg_iload_n 264 (sk_td o_law0 51 rfl) rfl rfl ?_
  refine sg_iconst (v := (3 : Int32)) 265 (sk_td o_law0 52 rfl) rfl (by decide) ?_
  refine sg_iadd 266 (sk_td o_law0 53 rfl) rfl ?_
  refine sg_sld (n := i + 3) 267 (sk_td o_law0 54 rfl) rfl (nI_add i 3) (by omega) hL ?_
  refine sm_callL3i 270 (s_X9_addPupil hq2) (sk_td o_law0 55 rfl) rfl lv_L_17 rfl rfl rfl sz_44 ⟨Nat.le_of_ble_eq_true rfl, Nat.le_of_ble_eq_true rfl, Nat.le_of_ble_eq_true rfl, Nat.le_of_ble_eq_true rfl⟩ (Nat.le_of_ble_eq_true rfl) ?_
  refine sg_ic_eq 1417 273 (sk_td o_law0 56 rfl) (by decide) rfl (fun _ => ?_) (fun hc => absurd rfl hc)
  exact kk _ hR2
set_option maxRecDepth 100000 in
set_option maxHeartbeats 4000000 in
theorem law_c1 {l : Launch} {nm : String} {L i : Nat} {xs : Nat → Int32} {d : sk_D} (hL : L ≤ 2560) (hi : i + 5 ≤ L) (hR : sk_R d) (kk : ∀ d2, sk_R d2 → sk_G l room_1 (m_law nm) (sk_ExL L xs) sk_ZL 171 56719 1417 [some (.inr (.inr (some (9999, 0)))), some (.inr (.inr (some (0, 0)))), some (.inr (.inr (some (44, 0)))), some (.inl (nI i))] [] (sk_mm d2)) : sk_G l room_1 (m_law nm) (sk_ExL L xs) sk_ZL 171 56719 275 [some (.inr (.inr (some (9999, 0)))), some (.inr (.inr (some (0, 0)))), some (.inr (.inr (some (44, 0)))), some (.inl (nI i))] [] (sk_mm d) := by
  obtain ⟨a, d1, d2, hq1, hq2, hR2⟩ := pz_removePupil hR (xs (i + 1))
  refine sg_aload_n 276 (sk_td o_law0 59 rfl) rfl rfl ?_
  refine sg_aload_n 277 (sk_td o_law1 0 rfl) rfl rfl ?_
  refine sg_iload_n 278 (sk_td o_law1 1 rfl) rfl rfl ?_
  refine sg_iconst (v := (1 : Int32)) 279 (sk_td o_law1 2 rfl) rfl (by decide) ?_
  refine sg_iadd 280 (sk_td o_law1 3 rfl) rfl ?_
  refine sg_sld (n := i + 1) 281 (sk_td o_law1 4 rfl) rfl (nI_add i 1) (by omega) hL ?_
  refine sm_callL1i 284 (s_X8_removePupil hq1) (sk_td o_law1 5 rfl) rfl lv_L_18 rfl rfl rfl sz_0 ⟨Nat.le_of_ble_eq_true rfl, Nat.le_of_ble_eq_true rfl, Nat.le_of_ble_eq_true rfl, Nat.le_of_ble_eq_true rfl⟩ (Nat.le_of_ble_eq_true rfl) ?_
  refine sg_aload_n 285 (sk_td o_law1 6 rfl) rfl rfl ?_
  refine sg_aload_n 286 (sk_td o_law1 7 rfl) rfl rfl ?_
  refine sg_iload_n 287 (sk_td o_law1 8 rfl) rfl rfl ?_
  refine sg_iconst (v := (1 : Int32)) 288 (sk_td o_law1 9 rfl) rfl (by decide) ?_
  refine sg_iadd 289 (sk_td o_law1 10 rfl) rfl ?_
  refine sg_sld (n := i + 1) 290 (sk_td o_law1 11 rfl) rfl (nI_add i 1) (by omega) hL ?_
  refine sm_callL1i 293 (s_X9_removePupil hq2) (sk_td o_law1 12 rfl) rfl lv_L_22 rfl rfl rfl sz_44 ⟨Nat.le_of_ble_eq_true rfl, Nat.le_of_ble_eq_true rfl, Nat.le_of_ble_eq_true rfl, Nat.le_of_ble_eq_true rfl⟩ (Nat.le_of_ble_eq_true rfl) ?_
  refine sg_ic_eq 1417 296 (sk_td o_law1 13 rfl) (by decide) rfl (fun _ => ?_) (fun hc => absurd rfl hc)
  exact kk _ hR2
set_option maxRecDepth 100000 in
set_option maxHeartbeats 4000000 in
theorem law_c2 {l : Launch} {nm : String} {L i : Nat} {xs : Nat → Int32} {d : sk_D} (hL : L ≤ 2560) (hi : i + 5 ≤ L) (hR : sk_R d) (kk : ∀ d2, sk_R d2 → sk_G l room_1 (m_law nm) (sk_ExL L xs) sk_ZL 171 56719 1417 [some (.inr (.inr (some (9999, 0)))), some (.inr (.inr (some (0, 0)))), some (.inr (.inr (some (44, 0)))), some (.inl (nI i))] [] (sk_mm d2)) : sk_G l room_1 (m_law nm) (sk_ExL L xs) sk_ZL 171 56719 298 [some (.inr (.inr (some (9999, 0)))), some (.inr (.inr (some (0, 0)))), some (.inr (.inr (some (44, 0)))), some (.inl (nI i))] [] (sk_mm d) := by
  obtain ⟨a, hq1, hq2⟩ := pz_pupils hR
  refine sg_aload_n 299 (sk_td o_law1 16 rfl) rfl rfl ?_
  refine sm_callL0i 302 (s_X8_pupils hq1) (sk_td o_law1 17 rfl) rfl lv_L_23 rfl rfl rfl sz_0 ⟨Nat.le_of_ble_eq_true rfl, Nat.le_of_ble_eq_true rfl, Nat.le_of_ble_eq_true rfl, Nat.le_of_ble_eq_true rfl⟩ (Nat.le_of_ble_eq_true rfl) ?_
  refine sg_aload_n 303 (sk_td o_law1 18 rfl) rfl rfl ?_
  refine sm_callL0i 306 (s_X9_pupils hq2) (sk_td o_law1 19 rfl) rfl lv_L_27 rfl rfl rfl sz_44 ⟨Nat.le_of_ble_eq_true rfl, Nat.le_of_ble_eq_true rfl, Nat.le_of_ble_eq_true rfl, Nat.le_of_ble_eq_true rfl⟩ (Nat.le_of_ble_eq_true rfl) ?_
  refine sg_ic_eq 1417 309 (sk_td o_law1 20 rfl) (by decide) rfl (fun _ => ?_) (fun hc => absurd rfl hc)
  exact kk _ hR
set_option maxRecDepth 100000 in
set_option maxHeartbeats 4000000 in
theorem law_c3 {l : Launch} {nm : String} {L i : Nat} {xs : Nat → Int32} {d : sk_D} (hL : L ≤ 2560) (hi : i + 5 ≤ L) (hR : sk_R d) (kk : ∀ d2, sk_R d2 → sk_G l room_1 (m_law nm) (sk_ExL L xs) sk_ZL 171 56719 1417 [some (.inr (.inr (some (9999, 0)))), some (.inr (.inr (some (0, 0)))), some (.inr (.inr (some (44, 0)))), some (.inl (nI i))] [] (sk_mm d2)) : sk_G l room_1 (m_law nm) (sk_ExL L xs) sk_ZL 171 56719 311 [some (.inr (.inr (some (9999, 0)))), some (.inr (.inr (some (0, 0)))), some (.inr (.inr (some (44, 0)))), some (.inl (nI i))] [] (sk_mm d) := by
  obtain ⟨a, hq1, hq2⟩ := pz_level hR (xs (i + 1))
  refine sg_aload_n 312 (sk_td o_law1 23 rfl) rfl rfl ?_
  refine sg_aload_n 313 (sk_td o_law1 24 rfl) rfl rfl ?_
  refine sg_iload_n 314 (sk_td o_law1 25 rfl) rfl rfl ?_
  refine sg_iconst (v := (1 : Int32)) 315 (sk_td o_law1 26 rfl) rfl (by decide) ?_
  refine sg_iadd 316 (sk_td o_law1 27 rfl) rfl ?_
  refine sg_sld (n := i + 1) 317 (sk_td o_law1 28 rfl) rfl (nI_add i 1) (by omega) hL ?_
  refine sm_callL1i 320 (s_X8_level hq1) (sk_td o_law1 29 rfl) rfl lv_L_28 rfl rfl rfl sz_0 ⟨Nat.le_of_ble_eq_true rfl, Nat.le_of_ble_eq_true rfl, Nat.le_of_ble_eq_true rfl, Nat.le_of_ble_eq_true rfl⟩ (Nat.le_of_ble_eq_true rfl) ?_
  refine sg_aload_n 321 (sk_td o_law1 30 rfl) rfl rfl ?_
  refine sg_aload_n 322 (sk_td o_law1 31 rfl) rfl rfl ?_
  refine sg_iload_n 323 (sk_td o_law1 32 rfl) rfl rfl ?_
  refine sg_iconst (v := (1 : Int32)) 324 (sk_td o_law1 33 rfl) rfl (by decide) ?_
  refine sg_iadd 325 (sk_td o_law1 34 rfl) rfl ?_
  refine sg_sld (n := i + 1) 326 (sk_td o_law1 35 rfl) rfl (nI_add i 1) (by omega) hL ?_
  refine sm_callL1i 329 (s_X9_level hq2) (sk_td o_law1 36 rfl) rfl lv_L_31 rfl rfl rfl sz_44 ⟨Nat.le_of_ble_eq_true rfl, Nat.le_of_ble_eq_true rfl, Nat.le_of_ble_eq_true rfl, Nat.le_of_ble_eq_true rfl⟩ (Nat.le_of_ble_eq_true rfl) ?_
  refine sg_ic_eq 1417 332 (sk_td o_law1 37 rfl) (by decide) rfl (fun _ => ?_) (fun hc => absurd rfl hc)
  exact kk _ hR
set_option maxRecDepth 100000 in
set_option maxHeartbeats 4000000 in
theorem law_c4 {l : Launch} {nm : String} {L i : Nat} {xs : Nat → Int32} {d : sk_D} (hL : L ≤ 2560) (hi : i + 5 ≤ L) (hR : sk_R d) (kk : ∀ d2, sk_R d2 → sk_G l room_1 (m_law nm) (sk_ExL L xs) sk_ZL 171 56719 1417 [some (.inr (.inr (some (9999, 0)))), some (.inr (.inr (some (0, 0)))), some (.inr (.inr (some (44, 0)))), some (.inl (nI i))] [] (sk_mm d2)) : sk_G l room_1 (m_law nm) (sk_ExL L xs) sk_ZL 171 56719 334 [some (.inr (.inr (some (9999, 0)))), some (.inr (.inr (some (0, 0)))), some (.inr (.inr (some (44, 0)))), some (.inl (nI i))] [] (sk_mm d) := by
  obtain ⟨a, hq1, hq2⟩ := pz_languages hR (xs (i + 1))
  refine sg_aload_n 335 (sk_td o_law1 40 rfl) rfl rfl ?_
  refine sg_aload_n 336 (sk_td o_law1 41 rfl) rfl rfl ?_
  refine sg_iload_n 337 (sk_td o_law1 42 rfl) rfl rfl ?_
  refine sg_iconst (v := (1 : Int32)) 338 (sk_td o_law1 43 rfl) rfl (by decide) ?_
  refine sg_iadd 339 (sk_td o_law1 44 rfl) rfl ?_
  refine sg_sld (n := i + 1) 340 (sk_td o_law1 45 rfl) rfl (nI_add i 1) (by omega) hL ?_
  refine sm_callL1i 343 (s_X8_languages hq1) (sk_td o_law1 46 rfl) rfl lv_L_32 rfl rfl rfl sz_0 ⟨Nat.le_of_ble_eq_true rfl, Nat.le_of_ble_eq_true rfl, Nat.le_of_ble_eq_true rfl, Nat.le_of_ble_eq_true rfl⟩ (Nat.le_of_ble_eq_true rfl) ?_
  refine sg_aload_n 344 (sk_td o_law1 47 rfl) rfl rfl ?_
  refine sg_aload_n 345 (sk_td o_law1 48 rfl) rfl rfl ?_
  refine sg_iload_n 346 (sk_td o_law1 49 rfl) rfl rfl ?_
  refine sg_iconst (v := (1 : Int32)) 347 (sk_td o_law1 50 rfl) rfl (by decide) ?_
  refine sg_iadd 348 (sk_td o_law1 51 rfl) rfl ?_
  refine sg_sld (n := i + 1) 349 (sk_td o_law1 52 rfl) rfl (nI_add i 1) (by omega) hL ?_
  refine sm_callL1i 352 (s_X9_languages hq2) (sk_td o_law1 53 rfl) rfl lv_L_35 rfl rfl rfl sz_44 ⟨Nat.le_of_ble_eq_true rfl, Nat.le_of_ble_eq_true rfl, Nat.le_of_ble_eq_true rfl, Nat.le_of_ble_eq_true rfl⟩ (Nat.le_of_ble_eq_true rfl) ?_
  refine sg_ic_eq 1417 355 (sk_td o_law1 54 rfl) (by decide) rfl (fun _ => ?_) (fun hc => absurd rfl hc)
  exact kk _ hR
set_option maxRecDepth 100000 in
set_option maxHeartbeats 4000000 in
theorem law_c5 {l : Launch} {nm : String} {L i : Nat} {xs : Nat → Int32} {d : sk_D} (hL : L ≤ 2560) (hi : i + 5 ≤ L) (hR : sk_R d) (kk : ∀ d2, sk_R d2 → sk_G l room_1 (m_law nm) (sk_ExL L xs) sk_ZL 171 56719 1417 [some (.inr (.inr (some (9999, 0)))), some (.inr (.inr (some (0, 0)))), some (.inr (.inr (some (44, 0)))), some (.inl (nI i))] [] (sk_mm d2)) : sk_G l room_1 (m_law nm) (sk_ExL L xs) sk_ZL 171 56719 357 [some (.inr (.inr (some (9999, 0)))), some (.inr (.inr (some (0, 0)))), some (.inr (.inr (some (44, 0)))), some (.inl (nI i))] [] (sk_mm d) := by
  obtain ⟨a, hq1, hq2⟩ := pz_family hR (xs (i + 1))
  refine sg_aload_n 358 (sk_td o_law1 57 rfl) rfl rfl ?_
  refine sg_aload_n 359 (sk_td o_law1 58 rfl) rfl rfl ?_
  refine sg_iload_n 360 (sk_td o_law1 59 rfl) rfl rfl ?_
  refine sg_iconst (v := (1 : Int32)) 361 (sk_td o_law2 0 rfl) rfl (by decide) ?_
  refine sg_iadd 362 (sk_td o_law2 1 rfl) rfl ?_
  refine sg_sld (n := i + 1) 363 (sk_td o_law2 2 rfl) rfl (nI_add i 1) (by omega) hL ?_
  refine sm_callL1i 366 (s_X8_family hq1) (sk_td o_law2 3 rfl) rfl lv_L_36 rfl rfl rfl sz_0 ⟨Nat.le_of_ble_eq_true rfl, Nat.le_of_ble_eq_true rfl, Nat.le_of_ble_eq_true rfl, Nat.le_of_ble_eq_true rfl⟩ (Nat.le_of_ble_eq_true rfl) ?_
  refine sg_aload_n 367 (sk_td o_law2 4 rfl) rfl rfl ?_
  refine sg_aload_n 368 (sk_td o_law2 5 rfl) rfl rfl ?_
  refine sg_iload_n 369 (sk_td o_law2 6 rfl) rfl rfl ?_
  refine sg_iconst (v := (1 : Int32)) 370 (sk_td o_law2 7 rfl) rfl (by decide) ?_
  refine sg_iadd 371 (sk_td o_law2 8 rfl) rfl ?_
  refine sg_sld (n := i + 1) 372 (sk_td o_law2 9 rfl) rfl (nI_add i 1) (by omega) hL ?_
  refine sm_callL1i 375 (s_X9_family hq2) (sk_td o_law2 10 rfl) rfl lv_L_39 rfl rfl rfl sz_44 ⟨Nat.le_of_ble_eq_true rfl, Nat.le_of_ble_eq_true rfl, Nat.le_of_ble_eq_true rfl, Nat.le_of_ble_eq_true rfl⟩ (Nat.le_of_ble_eq_true rfl) ?_
  refine sg_ic_eq 1417 378 (sk_td o_law2 11 rfl) (by decide) rfl (fun _ => ?_) (fun hc => absurd rfl hc)
  exact kk _ hR
set_option maxRecDepth 100000 in
set_option maxHeartbeats 4000000 in
theorem law_c6 {l : Launch} {nm : String} {L i : Nat} {xs : Nat → Int32} {d : sk_D} (hL : L ≤ 2560) (hi : i + 5 ≤ L) (hR : sk_R d) (kk : ∀ d2, sk_R d2 → sk_G l room_1 (m_law nm) (sk_ExL L xs) sk_ZL 171 56719 1417 [some (.inr (.inr (some (9999, 0)))), some (.inr (.inr (some (0, 0)))), some (.inr (.inr (some (44, 0)))), some (.inl (nI i))] [] (sk_mm d2)) : sk_G l room_1 (m_law nm) (sk_ExL L xs) sk_ZL 171 56719 380 [some (.inr (.inr (some (9999, 0)))), some (.inr (.inr (some (0, 0)))), some (.inr (.inr (some (44, 0)))), some (.inl (nI i))] [] (sk_mm d) := by
  obtain ⟨a, hq1, hq2⟩ := pz_group hR (xs (i + 1))
  refine sg_aload_n 381 (sk_td o_law2 14 rfl) rfl rfl ?_
  refine sg_aload_n 382 (sk_td o_law2 15 rfl) rfl rfl ?_
  refine sg_iload_n 383 (sk_td o_law2 16 rfl) rfl rfl ?_
  refine sg_iconst (v := (1 : Int32)) 384 (sk_td o_law2 17 rfl) rfl (by decide) ?_
  refine sg_iadd 385 (sk_td o_law2 18 rfl) rfl ?_
  refine sg_sld (n := i + 1) 386 (sk_td o_law2 19 rfl) rfl (nI_add i 1) (by omega) hL ?_
  refine sm_callL1i 389 (s_X8_group hq1) (sk_td o_law2 20 rfl) rfl lv_L_40 rfl rfl rfl sz_0 ⟨Nat.le_of_ble_eq_true rfl, Nat.le_of_ble_eq_true rfl, Nat.le_of_ble_eq_true rfl, Nat.le_of_ble_eq_true rfl⟩ (Nat.le_of_ble_eq_true rfl) ?_
  refine sg_aload_n 390 (sk_td o_law2 21 rfl) rfl rfl ?_
  refine sg_aload_n 391 (sk_td o_law2 22 rfl) rfl rfl ?_
  refine sg_iload_n 392 (sk_td o_law2 23 rfl) rfl rfl ?_
  refine sg_iconst (v := (1 : Int32)) 393 (sk_td o_law2 24 rfl) rfl (by decide) ?_
  refine sg_iadd 394 (sk_td o_law2 25 rfl) rfl ?_
  refine sg_sld (n := i + 1) 395 (sk_td o_law2 26 rfl) rfl (nI_add i 1) (by omega) hL ?_
  refine sm_callL1i 398 (s_X9_group hq2) (sk_td o_law2 27 rfl) rfl lv_L_43 rfl rfl rfl sz_44 ⟨Nat.le_of_ble_eq_true rfl, Nat.le_of_ble_eq_true rfl, Nat.le_of_ble_eq_true rfl, Nat.le_of_ble_eq_true rfl⟩ (Nat.le_of_ble_eq_true rfl) ?_
  refine sg_ic_eq 1417 401 (sk_td o_law2 28 rfl) (by decide) rfl (fun _ => ?_) (fun hc => absurd rfl hc)
  exact kk _ hR
set_option maxRecDepth 100000 in
set_option maxHeartbeats 4000000 in
theorem law_c7 {l : Launch} {nm : String} {L i : Nat} {xs : Nat → Int32} {d : sk_D} (hL : L ≤ 2560) (hi : i + 5 ≤ L) (hR : sk_R d) (kk : ∀ d2, sk_R d2 → sk_G l room_1 (m_law nm) (sk_ExL L xs) sk_ZL 171 56719 1417 [some (.inr (.inr (some (9999, 0)))), some (.inr (.inr (some (0, 0)))), some (.inr (.inr (some (44, 0)))), some (.inl (nI i))] [] (sk_mm d2)) : sk_G l room_1 (m_law nm) (sk_ExL L xs) sk_ZL 171 56719 403 [some (.inr (.inr (some (9999, 0)))), some (.inr (.inr (some (0, 0)))), some (.inr (.inr (some (44, 0)))), some (.inl (nI i))] [] (sk_mm d) := by
  obtain ⟨a, d1, d2, hq1, hq2, hR2⟩ := pz_setTogether hR (xs (i + 1)) (if (xs (i + 2)) = 0 then (0 : Int32) else 1) (by split; exact .inl rfl; exact .inr rfl)
  refine sg_aload_n 404 (sk_td o_law2 31 rfl) rfl rfl ?_
  refine sg_aload_n 405 (sk_td o_law2 32 rfl) rfl rfl ?_
  refine sg_iload_n 406 (sk_td o_law2 33 rfl) rfl rfl ?_
  refine sg_iconst (v := (1 : Int32)) 407 (sk_td o_law2 34 rfl) rfl (by decide) ?_
  refine sg_iadd 408 (sk_td o_law2 35 rfl) rfl ?_
  refine sg_sld (n := i + 1) 409 (sk_td o_law2 36 rfl) rfl (nI_add i 1) (by omega) hL ?_
  refine sg_aload_n 410 (sk_td o_law2 37 rfl) rfl rfl ?_
  refine sg_iload_n 411 (sk_td o_law2 38 rfl) rfl rfl ?_
  refine sg_iconst (v := (2 : Int32)) 412 (sk_td o_law2 39 rfl) rfl (by decide) ?_
  refine sg_iadd 413 (sk_td o_law2 40 rfl) rfl ?_
  refine sg_sld (n := i + 2) 414 (sk_td o_law2 41 rfl) rfl (nI_add i 2) (by omega) hL ?_
  have hbz414 : ∀ y : Int32, y = (if (xs (i + 2)) = 0 then 0 else 1) → sk_G l room_1 (m_law nm) (sk_ExL L xs) sk_ZL 171 56719 422 [some (.inr (.inr (some (9999, 0)))), some (.inr (.inr (some (0, 0)))), some (.inr (.inr (some (44, 0)))), some (.inl (nI i))] (.inl y :: .inl (xs (i + 1)) :: .inr (.inr (some (0, 0))) :: []) (sk_mm d) → sk_G l room_1 (m_law nm) (sk_ExL L xs) sk_ZL 171 56719 414 [some (.inr (.inr (some (9999, 0)))), some (.inr (.inr (some (0, 0)))), some (.inr (.inr (some (44, 0)))), some (.inl (nI i))] (.inl (xs (i + 2)) :: .inl (xs (i + 1)) :: .inr (.inr (some (0, 0))) :: []) (sk_mm d) := by
    intro y hy kk2
    refine sg_if_eq 421 417 (sk_td o_law2 42 rfl) (by decide) rfl (fun hc => ?_) (fun hc => ?_)
    · rw [if_pos hc] at hy
      subst hy
      exact sg_iconst (v := (0 : Int32)) 422 (sk_td o_law2 45 rfl) rfl (by decide) kk2
    · rw [if_neg hc] at hy
      subst hy
      exact sg_iconst (v := (1 : Int32)) 418 (sk_td o_law2 43 rfl) rfl (by decide) (sg_goto 422 (sk_td o_law2 44 rfl) (by decide) kk2)
  refine hbz414 _ rfl ?_
  refine sm_callL2i 425 (s_X8_setTogether hq1) (sk_td o_law2 46 rfl) rfl lv_L_44 rfl rfl rfl sz_0 ⟨Nat.le_of_ble_eq_true rfl, Nat.le_of_ble_eq_true rfl, Nat.le_of_ble_eq_true rfl, Nat.le_of_ble_eq_true rfl⟩ (Nat.le_of_ble_eq_true rfl) ?_
  refine sg_aload_n 426 (sk_td o_law2 47 rfl) rfl rfl ?_
  refine sg_aload_n 427 (sk_td o_law2 48 rfl) rfl rfl ?_
  refine sg_iload_n 428 (sk_td o_law2 49 rfl) rfl rfl ?_
  refine sg_iconst (v := (1 : Int32)) 429 (sk_td o_law2 50 rfl) rfl (by decide) ?_
  refine sg_iadd 430 (sk_td o_law2 51 rfl) rfl ?_
  refine sg_sld (n := i + 1) 431 (sk_td o_law2 52 rfl) rfl (nI_add i 1) (by omega) hL ?_
  refine sg_aload_n 432 (sk_td o_law2 53 rfl) rfl rfl ?_
  refine sg_iload_n 433 (sk_td o_law2 54 rfl) rfl rfl ?_
  refine sg_iconst (v := (2 : Int32)) 434 (sk_td o_law2 55 rfl) rfl (by decide) ?_
  refine sg_iadd 435 (sk_td o_law2 56 rfl) rfl ?_
  refine sg_sld (n := i + 2) 436 (sk_td o_law2 57 rfl) rfl (nI_add i 2) (by omega) hL ?_
  have hbz436 : ∀ y : Int32, y = (if (xs (i + 2)) = 0 then 0 else 1) → sk_G l room_1 (m_law nm) (sk_ExL L xs) sk_ZL 171 56719 444 [some (.inr (.inr (some (9999, 0)))), some (.inr (.inr (some (0, 0)))), some (.inr (.inr (some (44, 0)))), some (.inl (nI i))] (.inl y :: .inl (xs (i + 1)) :: .inr (.inr (some (44, 0))) :: .inl a :: []) (sk_mm d1) → sk_G l room_1 (m_law nm) (sk_ExL L xs) sk_ZL 171 56719 436 [some (.inr (.inr (some (9999, 0)))), some (.inr (.inr (some (0, 0)))), some (.inr (.inr (some (44, 0)))), some (.inl (nI i))] (.inl (xs (i + 2)) :: .inl (xs (i + 1)) :: .inr (.inr (some (44, 0))) :: .inl a :: []) (sk_mm d1) := by
    intro y hy kk2
    refine sg_if_eq 443 439 (sk_td o_law2 58 rfl) (by decide) rfl (fun hc => ?_) (fun hc => ?_)
    · rw [if_pos hc] at hy
      subst hy
      exact sg_iconst (v := (0 : Int32)) 444 (sk_td o_law3 1 rfl) rfl (by decide) kk2
    · rw [if_neg hc] at hy
      subst hy
      exact sg_iconst (v := (1 : Int32)) 440 (sk_td o_law2 59 rfl) rfl (by decide) (sg_goto 444 (sk_td o_law3 0 rfl) (by decide) kk2)
  refine hbz436 _ rfl ?_
  refine sm_callL2i 447 (s_X9_setTogether hq2) (sk_td o_law3 2 rfl) rfl lv_L_48 rfl rfl rfl sz_44 ⟨Nat.le_of_ble_eq_true rfl, Nat.le_of_ble_eq_true rfl, Nat.le_of_ble_eq_true rfl, Nat.le_of_ble_eq_true rfl⟩ (Nat.le_of_ble_eq_true rfl) ?_
  refine sg_ic_eq 1417 450 (sk_td o_law3 3 rfl) (by decide) rfl (fun _ => ?_) (fun hc => absurd rfl hc)
  exact kk _ hR2
set_option maxRecDepth 100000 in
set_option maxHeartbeats 4000000 in
theorem law_c8 {l : Launch} {nm : String} {L i : Nat} {xs : Nat → Int32} {d : sk_D} (hL : L ≤ 2560) (hi : i + 5 ≤ L) (hR : sk_R d) (kk : ∀ d2, sk_R d2 → sk_G l room_1 (m_law nm) (sk_ExL L xs) sk_ZL 171 56719 1417 [some (.inr (.inr (some (9999, 0)))), some (.inr (.inr (some (0, 0)))), some (.inr (.inr (some (44, 0)))), some (.inl (nI i))] [] (sk_mm d2)) : sk_G l room_1 (m_law nm) (sk_ExL L xs) sk_ZL 171 56719 452 [some (.inr (.inr (some (9999, 0)))), some (.inr (.inr (some (0, 0)))), some (.inr (.inr (some (44, 0)))), some (.inl (nI i))] [] (sk_mm d) := by
  obtain ⟨a, hq1, hq2⟩ := pz_spread hR (xs (i + 1))
  refine sg_aload_n 453 (sk_td o_law3 6 rfl) rfl rfl ?_
  refine sg_aload_n 454 (sk_td o_law3 7 rfl) rfl rfl ?_
  refine sg_iload_n 455 (sk_td o_law3 8 rfl) rfl rfl ?_
  refine sg_iconst (v := (1 : Int32)) 456 (sk_td o_law3 9 rfl) rfl (by decide) ?_
  refine sg_iadd 457 (sk_td o_law3 10 rfl) rfl ?_
  refine sg_sld (n := i + 1) 458 (sk_td o_law3 11 rfl) rfl (nI_add i 1) (by omega) hL ?_
  refine sm_callL1i 461 (s_X8_spread hq1) (sk_td o_law3 12 rfl) rfl lv_L_49 rfl rfl rfl sz_0 ⟨Nat.le_of_ble_eq_true rfl, Nat.le_of_ble_eq_true rfl, Nat.le_of_ble_eq_true rfl, Nat.le_of_ble_eq_true rfl⟩ (Nat.le_of_ble_eq_true rfl) ?_
  refine sg_aload_n 462 (sk_td o_law3 13 rfl) rfl rfl ?_
  refine sg_aload_n 463 (sk_td o_law3 14 rfl) rfl rfl ?_
  refine sg_iload_n 464 (sk_td o_law3 15 rfl) rfl rfl ?_
  refine sg_iconst (v := (1 : Int32)) 465 (sk_td o_law3 16 rfl) rfl (by decide) ?_
  refine sg_iadd 466 (sk_td o_law3 17 rfl) rfl ?_
  refine sg_sld (n := i + 1) 467 (sk_td o_law3 18 rfl) rfl (nI_add i 1) (by omega) hL ?_
  refine sm_callL1i 470 (s_X9_spread hq2) (sk_td o_law3 19 rfl) rfl lv_L_52 rfl rfl rfl sz_44 ⟨Nat.le_of_ble_eq_true rfl, Nat.le_of_ble_eq_true rfl, Nat.le_of_ble_eq_true rfl, Nat.le_of_ble_eq_true rfl⟩ (Nat.le_of_ble_eq_true rfl) ?_
  refine sg_ic_eq 1417 473 (sk_td o_law3 20 rfl) (by decide) rfl (fun _ => ?_) (fun hc => absurd rfl hc)
  exact kk _ hR
set_option maxRecDepth 100000 in
set_option maxHeartbeats 4000000 in
theorem law_c9 {l : Launch} {nm : String} {L i : Nat} {xs : Nat → Int32} {d : sk_D} (hL : L ≤ 2560) (hi : i + 5 ≤ L) (hR : sk_R d) (kk : ∀ d2, sk_R d2 → sk_G l room_1 (m_law nm) (sk_ExL L xs) sk_ZL 171 56719 1417 [some (.inr (.inr (some (9999, 0)))), some (.inr (.inr (some (0, 0)))), some (.inr (.inr (some (44, 0)))), some (.inl (nI i))] [] (sk_mm d2)) : sk_G l room_1 (m_law nm) (sk_ExL L xs) sk_ZL 171 56719 475 [some (.inr (.inr (some (9999, 0)))), some (.inr (.inr (some (0, 0)))), some (.inr (.inr (some (44, 0)))), some (.inl (nI i))] [] (sk_mm d) := by
  obtain ⟨a, d1, d2, hq1, hq2, hR2⟩ := pz_score hR (xs (i + 1)) (xs (i + 2)) (xs (i + 3))
  refine sg_aload_n 476 (sk_td o_law3 23 rfl) rfl rfl ?_
  refine sg_aload_n 477 (sk_td o_law3 24 rfl) rfl rfl ?_
  refine sg_iload_n 478 (sk_td o_law3 25 rfl) rfl rfl ?_
  refine sg_iconst (v := (1 : Int32)) 479 (sk_td o_law3 26 rfl) rfl (by decide) ?_
  refine sg_iadd 480 (sk_td o_law3 27 rfl) rfl ?_
  refine sg_sld (n := i + 1) 481 (sk_td o_law3 28 rfl) rfl (nI_add i 1) (by omega) hL ?_
  refine sg_aload_n 482 (sk_td o_law3 29 rfl) rfl rfl ?_
  refine sg_iload_n 483 (sk_td o_law3 30 rfl) rfl rfl ?_
  refine sg_iconst (v := (2 : Int32)) 484 (sk_td o_law3 31 rfl) rfl (by decide) ?_
  refine sg_iadd 485 (sk_td o_law3 32 rfl) rfl ?_
  refine sg_sld (n := i + 2) 486 (sk_td o_law3 33 rfl) rfl (nI_add i 2) (by omega) hL ?_
  refine sg_aload_n 487 (sk_td o_law3 34 rfl) rfl rfl ?_
  refine sg_iload_n 488 (sk_td o_law3 35 rfl) rfl rfl ?_
  refine sg_iconst (v := (3 : Int32)) 489 (sk_td o_law3 36 rfl) rfl (by decide) ?_
  refine sg_iadd 490 (sk_td o_law3 37 rfl) rfl ?_
  refine sg_sld (n := i + 3) 491 (sk_td o_law3 38 rfl) rfl (nI_add i 3) (by omega) hL ?_
  refine sm_callL3i 494 (s_X8_score hq1) (sk_td o_law3 39 rfl) rfl lv_L_53 rfl rfl rfl sz_0 ⟨Nat.le_of_ble_eq_true rfl, Nat.le_of_ble_eq_true rfl, Nat.le_of_ble_eq_true rfl, Nat.le_of_ble_eq_true rfl⟩ (Nat.le_of_ble_eq_true rfl) ?_
  refine sg_aload_n 495 (sk_td o_law3 40 rfl) rfl rfl ?_
  refine sg_aload_n 496 (sk_td o_law3 41 rfl) rfl rfl ?_
  refine sg_iload_n 497 (sk_td o_law3 42 rfl) rfl rfl ?_
  refine sg_iconst (v := (1 : Int32)) 498 (sk_td o_law3 43 rfl) rfl (by decide) ?_
  refine sg_iadd 499 (sk_td o_law3 44 rfl) rfl ?_
  refine sg_sld (n := i + 1) 500 (sk_td o_law3 45 rfl) rfl (nI_add i 1) (by omega) hL ?_
  refine sg_aload_n 501 (sk_td o_law3 46 rfl) rfl rfl ?_
  refine sg_iload_n 502 (sk_td o_law3 47 rfl) rfl rfl ?_
  refine sg_iconst (v := (2 : Int32)) 503 (sk_td o_law3 48 rfl) rfl (by decide) ?_
  refine sg_iadd 504 (sk_td o_law3 49 rfl) rfl ?_
  refine sg_sld (n := i + 2) 505 (sk_td o_law3 50 rfl) rfl (nI_add i 2) (by omega) hL ?_
  refine sg_aload_n 506 (sk_td o_law3 51 rfl) rfl rfl ?_
  refine sg_iload_n 507 (sk_td o_law3 52 rfl) rfl rfl ?_
  refine sg_iconst (v := (3 : Int32)) 508 (sk_td o_law3 53 rfl) rfl (by decide) ?_
  refine sg_iadd 509 (sk_td o_law3 54 rfl) rfl ?_
  refine sg_sld (n := i + 3) 510 (sk_td o_law3 55 rfl) rfl (nI_add i 3) (by omega) hL ?_
  refine sm_callL3i 513 (s_X9_score hq2) (sk_td o_law3 56 rfl) rfl lv_L_56 rfl rfl rfl sz_44 ⟨Nat.le_of_ble_eq_true rfl, Nat.le_of_ble_eq_true rfl, Nat.le_of_ble_eq_true rfl, Nat.le_of_ble_eq_true rfl⟩ (Nat.le_of_ble_eq_true rfl) ?_
  refine sg_ic_eq 1417 516 (sk_td o_law3 57 rfl) (by decide) rfl (fun _ => ?_) (fun hc => absurd rfl hc)
  exact kk _ hR2
set_option maxRecDepth 100000 in
set_option maxHeartbeats 4000000 in
theorem law_c10 {l : Launch} {nm : String} {L i : Nat} {xs : Nat → Int32} {d : sk_D} (hL : L ≤ 2560) (hi : i + 5 ≤ L) (hR : sk_R d) (kk : ∀ d2, sk_R d2 → sk_G l room_1 (m_law nm) (sk_ExL L xs) sk_ZL 171 56719 1417 [some (.inr (.inr (some (9999, 0)))), some (.inr (.inr (some (0, 0)))), some (.inr (.inr (some (44, 0)))), some (.inl (nI i))] [] (sk_mm d2)) : sk_G l room_1 (m_law nm) (sk_ExL L xs) sk_ZL 171 56719 518 [some (.inr (.inr (some (9999, 0)))), some (.inr (.inr (some (0, 0)))), some (.inr (.inr (some (44, 0)))), some (.inl (nI i))] [] (sk_mm d) := by
  obtain ⟨a, hq1, hq2⟩ := pz_scoreOf hR (xs (i + 1)) (xs (i + 2))
  refine sg_aload_n 519 (sk_td o_law4 0 rfl) rfl rfl ?_
  refine sg_aload_n 520 (sk_td o_law4 1 rfl) rfl rfl ?_
  refine sg_iload_n 521 (sk_td o_law4 2 rfl) rfl rfl ?_
  refine sg_iconst (v := (1 : Int32)) 522 (sk_td o_law4 3 rfl) rfl (by decide) ?_
  refine sg_iadd 523 (sk_td o_law4 4 rfl) rfl ?_
  refine sg_sld (n := i + 1) 524 (sk_td o_law4 5 rfl) rfl (nI_add i 1) (by omega) hL ?_
  refine sg_aload_n 525 (sk_td o_law4 6 rfl) rfl rfl ?_
  refine sg_iload_n 526 (sk_td o_law4 7 rfl) rfl rfl ?_
  refine sg_iconst (v := (2 : Int32)) 527 (sk_td o_law4 8 rfl) rfl (by decide) ?_
  refine sg_iadd 528 (sk_td o_law4 9 rfl) rfl ?_
  refine sg_sld (n := i + 2) 529 (sk_td o_law4 10 rfl) rfl (nI_add i 2) (by omega) hL ?_
  refine sm_callL2i 532 (s_X8_scoreOf hq1) (sk_td o_law4 11 rfl) rfl lv_L_57 rfl rfl rfl sz_0 ⟨Nat.le_of_ble_eq_true rfl, Nat.le_of_ble_eq_true rfl, Nat.le_of_ble_eq_true rfl, Nat.le_of_ble_eq_true rfl⟩ (Nat.le_of_ble_eq_true rfl) ?_
  refine sg_aload_n 533 (sk_td o_law4 12 rfl) rfl rfl ?_
  refine sg_aload_n 534 (sk_td o_law4 13 rfl) rfl rfl ?_
  refine sg_iload_n 535 (sk_td o_law4 14 rfl) rfl rfl ?_
  refine sg_iconst (v := (1 : Int32)) 536 (sk_td o_law4 15 rfl) rfl (by decide) ?_
  refine sg_iadd 537 (sk_td o_law4 16 rfl) rfl ?_
  refine sg_sld (n := i + 1) 538 (sk_td o_law4 17 rfl) rfl (nI_add i 1) (by omega) hL ?_
  refine sg_aload_n 539 (sk_td o_law4 18 rfl) rfl rfl ?_
  refine sg_iload_n 540 (sk_td o_law4 19 rfl) rfl rfl ?_
  refine sg_iconst (v := (2 : Int32)) 541 (sk_td o_law4 20 rfl) rfl (by decide) ?_
  refine sg_iadd 542 (sk_td o_law4 21 rfl) rfl ?_
  refine sg_sld (n := i + 2) 543 (sk_td o_law4 22 rfl) rfl (nI_add i 2) (by omega) hL ?_
  refine sm_callL2i 546 (s_X9_scoreOf hq2) (sk_td o_law4 23 rfl) rfl lv_L_61 rfl rfl rfl sz_44 ⟨Nat.le_of_ble_eq_true rfl, Nat.le_of_ble_eq_true rfl, Nat.le_of_ble_eq_true rfl, Nat.le_of_ble_eq_true rfl⟩ (Nat.le_of_ble_eq_true rfl) ?_
  refine sg_ic_eq 1417 549 (sk_td o_law4 24 rfl) (by decide) rfl (fun _ => ?_) (fun hc => absurd rfl hc)
  exact kk _ hR
set_option maxRecDepth 100000 in
set_option maxHeartbeats 4000000 in
theorem law_c11 {l : Launch} {nm : String} {L i : Nat} {xs : Nat → Int32} {d : sk_D} (hL : L ≤ 2560) (hi : i + 5 ≤ L) (hR : sk_R d) (kk : ∀ d2, sk_R d2 → sk_G l room_1 (m_law nm) (sk_ExL L xs) sk_ZL 171 56719 1417 [some (.inr (.inr (some (9999, 0)))), some (.inr (.inr (some (0, 0)))), some (.inr (.inr (some (44, 0)))), some (.inl (nI i))] [] (sk_mm d2)) : sk_G l room_1 (m_law nm) (sk_ExL L xs) sk_ZL 171 56719 551 [some (.inr (.inr (some (9999, 0)))), some (.inr (.inr (some (0, 0)))), some (.inr (.inr (some (44, 0)))), some (.inl (nI i))] [] (sk_mm d) := by
  obtain ⟨a, d1, d2, hq1, hq2, hR2⟩ := pz_setMarks hR (xs (i + 1)) (xs (i + 2)) (xs (i + 3))
  refine sg_aload_n 552 (sk_td o_law4 27 rfl) rfl rfl ?_
  refine sg_aload_n 553 (sk_td o_law4 28 rfl) rfl rfl ?_
  refine sg_iload_n 554 (sk_td o_law4 29 rfl) rfl rfl ?_
  refine sg_iconst (v := (1 : Int32)) 555 (sk_td o_law4 30 rfl) rfl (by decide) ?_
  refine sg_iadd 556 (sk_td o_law4 31 rfl) rfl ?_
  refine sg_sld (n := i + 1) 557 (sk_td o_law4 32 rfl) rfl (nI_add i 1) (by omega) hL ?_
  refine sg_aload_n 558 (sk_td o_law4 33 rfl) rfl rfl ?_
  refine sg_iload_n 559 (sk_td o_law4 34 rfl) rfl rfl ?_
  refine sg_iconst (v := (2 : Int32)) 560 (sk_td o_law4 35 rfl) rfl (by decide) ?_
  refine sg_iadd 561 (sk_td o_law4 36 rfl) rfl ?_
  refine sg_sld (n := i + 2) 562 (sk_td o_law4 37 rfl) rfl (nI_add i 2) (by omega) hL ?_
  refine sg_aload_n 563 (sk_td o_law4 38 rfl) rfl rfl ?_
  refine sg_iload_n 564 (sk_td o_law4 39 rfl) rfl rfl ?_
  refine sg_iconst (v := (3 : Int32)) 565 (sk_td o_law4 40 rfl) rfl (by decide) ?_
  refine sg_iadd 566 (sk_td o_law4 41 rfl) rfl ?_
  refine sg_sld (n := i + 3) 567 (sk_td o_law4 42 rfl) rfl (nI_add i 3) (by omega) hL ?_
  refine sm_callL3i 570 (s_X8_setMarks hq1) (sk_td o_law4 43 rfl) rfl lv_L_62 rfl rfl rfl sz_0 ⟨Nat.le_of_ble_eq_true rfl, Nat.le_of_ble_eq_true rfl, Nat.le_of_ble_eq_true rfl, Nat.le_of_ble_eq_true rfl⟩ (Nat.le_of_ble_eq_true rfl) ?_
  refine sg_aload_n 571 (sk_td o_law4 44 rfl) rfl rfl ?_
  refine sg_aload_n 572 (sk_td o_law4 45 rfl) rfl rfl ?_
  refine sg_iload_n 573 (sk_td o_law4 46 rfl) rfl rfl ?_
  refine sg_iconst (v := (1 : Int32)) 574 (sk_td o_law4 47 rfl) rfl (by decide) ?_
  refine sg_iadd 575 (sk_td o_law4 48 rfl) rfl ?_
  refine sg_sld (n := i + 1) 576 (sk_td o_law4 49 rfl) rfl (nI_add i 1) (by omega) hL ?_
  refine sg_aload_n 577 (sk_td o_law4 50 rfl) rfl rfl ?_
  refine sg_iload_n 578 (sk_td o_law4 51 rfl) rfl rfl ?_
  refine sg_iconst (v := (2 : Int32)) 579 (sk_td o_law4 52 rfl) rfl (by decide) ?_
  refine sg_iadd 580 (sk_td o_law4 53 rfl) rfl ?_
  refine sg_sld (n := i + 2) 581 (sk_td o_law4 54 rfl) rfl (nI_add i 2) (by omega) hL ?_
  refine sg_aload_n 582 (sk_td o_law4 55 rfl) rfl rfl ?_
  refine sg_iload_n 583 (sk_td o_law4 56 rfl) rfl rfl ?_
  refine sg_iconst (v := (3 : Int32)) 584 (sk_td o_law4 57 rfl) rfl (by decide) ?_
  refine sg_iadd 585 (sk_td o_law4 58 rfl) rfl ?_
  refine sg_sld (n := i + 3) 586 (sk_td o_law4 59 rfl) rfl (nI_add i 3) (by omega) hL ?_
  refine sm_callL3i 589 (s_X9_setMarks hq2) (sk_td o_law5 0 rfl) rfl lv_L_65 rfl rfl rfl sz_44 ⟨Nat.le_of_ble_eq_true rfl, Nat.le_of_ble_eq_true rfl, Nat.le_of_ble_eq_true rfl, Nat.le_of_ble_eq_true rfl⟩ (Nat.le_of_ble_eq_true rfl) ?_
  refine sg_ic_eq 1417 592 (sk_td o_law5 1 rfl) (by decide) rfl (fun _ => ?_) (fun hc => absurd rfl hc)
  exact kk _ hR2
set_option maxRecDepth 100000 in
set_option maxHeartbeats 4000000 in
theorem law_c12 {l : Launch} {nm : String} {L i : Nat} {xs : Nat → Int32} {d : sk_D} (hL : L ≤ 2560) (hi : i + 5 ≤ L) (hR : sk_R d) (kk : ∀ d2, sk_R d2 → sk_G l room_1 (m_law nm) (sk_ExL L xs) sk_ZL 171 56719 1417 [some (.inr (.inr (some (9999, 0)))), some (.inr (.inr (some (0, 0)))), some (.inr (.inr (some (44, 0)))), some (.inl (nI i))] [] (sk_mm d2)) : sk_G l room_1 (m_law nm) (sk_ExL L xs) sk_ZL 171 56719 594 [some (.inr (.inr (some (9999, 0)))), some (.inr (.inr (some (0, 0)))), some (.inr (.inr (some (44, 0)))), some (.inl (nI i))] [] (sk_mm d) := by
  obtain ⟨a, d1, d2, hq1, hq2, hR2⟩ := pz_grade hR (xs (i + 1))
  refine sg_aload_n 595 (sk_td o_law5 4 rfl) rfl rfl ?_
  refine sg_aload_n 596 (sk_td o_law5 5 rfl) rfl rfl ?_
  refine sg_iload_n 597 (sk_td o_law5 6 rfl) rfl rfl ?_
  refine sg_iconst (v := (1 : Int32)) 598 (sk_td o_law5 7 rfl) rfl (by decide) ?_
  refine sg_iadd 599 (sk_td o_law5 8 rfl) rfl ?_
  refine sg_sld (n := i + 1) 600 (sk_td o_law5 9 rfl) rfl (nI_add i 1) (by omega) hL ?_
  refine sm_callL1i 603 (s_X8_grade hq1) (sk_td o_law5 10 rfl) rfl lv_L_66 rfl rfl rfl sz_0 ⟨Nat.le_of_ble_eq_true rfl, Nat.le_of_ble_eq_true rfl, Nat.le_of_ble_eq_true rfl, Nat.le_of_ble_eq_true rfl⟩ (Nat.le_of_ble_eq_true rfl) ?_
  refine sg_aload_n 604 (sk_td o_law5 11 rfl) rfl rfl ?_
  refine sg_aload_n 605 (sk_td o_law5 12 rfl) rfl rfl ?_
  refine sg_iload_n 606 (sk_td o_law5 13 rfl) rfl rfl ?_
  refine sg_iconst (v := (1 : Int32)) 607 (sk_td o_law5 14 rfl) rfl (by decide) ?_
  refine sg_iadd 608 (sk_td o_law5 15 rfl) rfl ?_
  refine sg_sld (n := i + 1) 609 (sk_td o_law5 16 rfl) rfl (nI_add i 1) (by omega) hL ?_
  refine sm_callL1i 612 (s_X9_grade hq2) (sk_td o_law5 17 rfl) rfl lv_L_69 rfl rfl rfl sz_44 ⟨Nat.le_of_ble_eq_true rfl, Nat.le_of_ble_eq_true rfl, Nat.le_of_ble_eq_true rfl, Nat.le_of_ble_eq_true rfl⟩ (Nat.le_of_ble_eq_true rfl) ?_
  refine sg_ic_eq 1417 615 (sk_td o_law5 18 rfl) (by decide) rfl (fun _ => ?_) (fun hc => absurd rfl hc)
  exact kk _ hR2
set_option maxRecDepth 100000 in
set_option maxHeartbeats 4000000 in
theorem law_c13 {l : Launch} {nm : String} {L i : Nat} {xs : Nat → Int32} {d : sk_D} (hL : L ≤ 2560) (hi : i + 5 ≤ L) (hR : sk_R d) (kk : ∀ d2, sk_R d2 → sk_G l room_1 (m_law nm) (sk_ExL L xs) sk_ZL 171 56719 1417 [some (.inr (.inr (some (9999, 0)))), some (.inr (.inr (some (0, 0)))), some (.inr (.inr (some (44, 0)))), some (.inl (nI i))] [] (sk_mm d2)) : sk_G l room_1 (m_law nm) (sk_ExL L xs) sk_ZL 171 56719 617 [some (.inr (.inr (some (9999, 0)))), some (.inr (.inr (some (0, 0)))), some (.inr (.inr (some (44, 0)))), some (.inl (nI i))] [] (sk_mm d) := by
  obtain ⟨a, d1, d2, hq1, hq2, hR2⟩ := pz_nextDay hR
  refine sg_aload_n 618 (sk_td o_law5 21 rfl) rfl rfl ?_
  refine sm_callL0i 621 (s_X8_nextDay hq1) (sk_td o_law5 22 rfl) rfl lv_L_70 rfl rfl rfl sz_0 ⟨Nat.le_of_ble_eq_true rfl, Nat.le_of_ble_eq_true rfl, Nat.le_of_ble_eq_true rfl, Nat.le_of_ble_eq_true rfl⟩ (Nat.le_of_ble_eq_true rfl) ?_
  refine sg_aload_n 622 (sk_td o_law5 23 rfl) rfl rfl ?_
  refine sm_callL0i 625 (s_X9_nextDay hq2) (sk_td o_law5 24 rfl) rfl lv_L_73 rfl rfl rfl sz_44 ⟨Nat.le_of_ble_eq_true rfl, Nat.le_of_ble_eq_true rfl, Nat.le_of_ble_eq_true rfl, Nat.le_of_ble_eq_true rfl⟩ (Nat.le_of_ble_eq_true rfl) ?_
  refine sg_ic_eq 1417 628 (sk_td o_law5 25 rfl) (by decide) rfl (fun _ => ?_) (fun hc => absurd rfl hc)
  exact kk _ hR2
set_option maxRecDepth 100000 in
set_option maxHeartbeats 4000000 in
theorem law_c14 {l : Launch} {nm : String} {L i : Nat} {xs : Nat → Int32} {d : sk_D} (hL : L ≤ 2560) (hi : i + 5 ≤ L) (hR : sk_R d) (kk : ∀ d2, sk_R d2 → sk_G l room_1 (m_law nm) (sk_ExL L xs) sk_ZL 171 56719 1417 [some (.inr (.inr (some (9999, 0)))), some (.inr (.inr (some (0, 0)))), some (.inr (.inr (some (44, 0)))), some (.inl (nI i))] [] (sk_mm d2)) : sk_G l room_1 (m_law nm) (sk_ExL L xs) sk_ZL 171 56719 630 [some (.inr (.inr (some (9999, 0)))), some (.inr (.inr (some (0, 0)))), some (.inr (.inr (some (44, 0)))), some (.inl (nI i))] [] (sk_mm d) := by
  obtain ⟨a, d1, d2, hq1, hq2, hR2⟩ := pz_openGroup hR (xs (i + 1)) (xs (i + 2)) (xs (i + 3))
  refine sg_aload_n 631 (sk_td o_law5 28 rfl) rfl rfl ?_
  refine sg_aload_n 632 (sk_td o_law5 29 rfl) rfl rfl ?_
  refine sg_iload_n 633 (sk_td o_law5 30 rfl) rfl rfl ?_
  refine sg_iconst (v := (1 : Int32)) 634 (sk_td o_law5 31 rfl) rfl (by decide) ?_
  refine sg_iadd 635 (sk_td o_law5 32 rfl) rfl ?_
  refine sg_sld (n := i + 1) 636 (sk_td o_law5 33 rfl) rfl (nI_add i 1) (by omega) hL ?_
  refine sg_aload_n 637 (sk_td o_law5 34 rfl) rfl rfl ?_
  refine sg_iload_n 638 (sk_td o_law5 35 rfl) rfl rfl ?_
  refine sg_iconst (v := (2 : Int32)) 639 (sk_td o_law5 36 rfl) rfl (by decide) ?_
  refine sg_iadd 640 (sk_td o_law5 37 rfl) rfl ?_
  refine sg_sld (n := i + 2) 641 (sk_td o_law5 38 rfl) rfl (nI_add i 2) (by omega) hL ?_
  refine sg_aload_n 642 (sk_td o_law5 39 rfl) rfl rfl ?_
  refine sg_iload_n 643 (sk_td o_law5 40 rfl) rfl rfl ?_
  refine sg_iconst (v := (3 : Int32)) 644 (sk_td o_law5 41 rfl) rfl (by decide) ?_
  refine sg_iadd 645 (sk_td o_law5 42 rfl) rfl ?_
  refine sg_sld (n := i + 3) 646 (sk_td o_law5 43 rfl) rfl (nI_add i 3) (by omega) hL ?_
  refine sm_callL3i 649 (s_X8_openGroup hq1) (sk_td o_law5 44 rfl) rfl lv_L_74 rfl rfl rfl sz_0 ⟨Nat.le_of_ble_eq_true rfl, Nat.le_of_ble_eq_true rfl, Nat.le_of_ble_eq_true rfl, Nat.le_of_ble_eq_true rfl⟩ (Nat.le_of_ble_eq_true rfl) ?_
  refine sg_aload_n 650 (sk_td o_law5 45 rfl) rfl rfl ?_
  refine sg_aload_n 651 (sk_td o_law5 46 rfl) rfl rfl ?_
  refine sg_iload_n 652 (sk_td o_law5 47 rfl) rfl rfl ?_
  refine sg_iconst (v := (1 : Int32)) 653 (sk_td o_law5 48 rfl) rfl (by decide) ?_
  refine sg_iadd 654 (sk_td o_law5 49 rfl) rfl ?_
  refine sg_sld (n := i + 1) 655 (sk_td o_law5 50 rfl) rfl (nI_add i 1) (by omega) hL ?_
  refine sg_aload_n 656 (sk_td o_law5 51 rfl) rfl rfl ?_
  refine sg_iload_n 657 (sk_td o_law5 52 rfl) rfl rfl ?_
  refine sg_iconst (v := (2 : Int32)) 658 (sk_td o_law5 53 rfl) rfl (by decide) ?_
  refine sg_iadd 659 (sk_td o_law5 54 rfl) rfl ?_
  refine sg_sld (n := i + 2) 660 (sk_td o_law5 55 rfl) rfl (nI_add i 2) (by omega) hL ?_
  refine sg_aload_n 661 (sk_td o_law5 56 rfl) rfl rfl ?_
  refine sg_iload_n 662 (sk_td o_law5 57 rfl) rfl rfl ?_
  refine sg_iconst (v := (3 : Int32)) 663 (sk_td o_law5 58 rfl) rfl (by decide) ?_
  refine sg_iadd 664 (sk_td o_law5 59 rfl) rfl ?_
  refine sg_sld (n := i + 3) 665 (sk_td o_law6 0 rfl) rfl (nI_add i 3) (by omega) hL ?_
  refine sm_callL3i 668 (s_X9_openGroup hq2) (sk_td o_law6 1 rfl) rfl lv_L_77 rfl rfl rfl sz_44 ⟨Nat.le_of_ble_eq_true rfl, Nat.le_of_ble_eq_true rfl, Nat.le_of_ble_eq_true rfl, Nat.le_of_ble_eq_true rfl⟩ (Nat.le_of_ble_eq_true rfl) ?_
  refine sg_ic_eq 1417 671 (sk_td o_law6 2 rfl) (by decide) rfl (fun _ => ?_) (fun hc => absurd rfl hc)
  exact kk _ hR2
set_option maxRecDepth 100000 in
set_option maxHeartbeats 4000000 in
theorem law_c15 {l : Launch} {nm : String} {L i : Nat} {xs : Nat → Int32} {d : sk_D} (hL : L ≤ 2560) (hi : i + 5 ≤ L) (hR : sk_R d) (kk : ∀ d2, sk_R d2 → sk_G l room_1 (m_law nm) (sk_ExL L xs) sk_ZL 171 56719 1417 [some (.inr (.inr (some (9999, 0)))), some (.inr (.inr (some (0, 0)))), some (.inr (.inr (some (44, 0)))), some (.inl (nI i))] [] (sk_mm d2)) : sk_G l room_1 (m_law nm) (sk_ExL L xs) sk_ZL 171 56719 673 [some (.inr (.inr (some (9999, 0)))), some (.inr (.inr (some (0, 0)))), some (.inr (.inr (some (44, 0)))), some (.inl (nI i))] [] (sk_mm d) := by
  obtain ⟨a, d1, d2, hq1, hq2, hR2⟩ := pz_closeGroup hR (xs (i + 1))
  refine sg_aload_n 674 (sk_td o_law6 5 rfl) rfl rfl ?_
  refine sg_aload_n 675 (sk_td o_law6 6 rfl) rfl rfl ?_
  refine sg_iload_n 676 (sk_td o_law6 7 rfl) rfl rfl ?_
  refine sg_iconst (v := (1 : Int32)) 677 (sk_td o_law6 8 rfl) rfl (by decide) ?_
  refine sg_iadd 678 (sk_td o_law6 9 rfl) rfl ?_
  refine sg_sld (n := i + 1) 679 (sk_td o_law6 10 rfl) rfl (nI_add i 1) (by omega) hL ?_
  refine sm_callL1i 682 (s_X8_closeGroup hq1) (sk_td o_law6 11 rfl) rfl lv_L_78 rfl rfl rfl sz_0 ⟨Nat.le_of_ble_eq_true rfl, Nat.le_of_ble_eq_true rfl, Nat.le_of_ble_eq_true rfl, Nat.le_of_ble_eq_true rfl⟩ (Nat.le_of_ble_eq_true rfl) ?_
  refine sg_aload_n 683 (sk_td o_law6 12 rfl) rfl rfl ?_
  refine sg_aload_n 684 (sk_td o_law6 13 rfl) rfl rfl ?_
  refine sg_iload_n 685 (sk_td o_law6 14 rfl) rfl rfl ?_
  refine sg_iconst (v := (1 : Int32)) 686 (sk_td o_law6 15 rfl) rfl (by decide) ?_
  refine sg_iadd 687 (sk_td o_law6 16 rfl) rfl ?_
  refine sg_sld (n := i + 1) 688 (sk_td o_law6 17 rfl) rfl (nI_add i 1) (by omega) hL ?_
  refine sm_callL1i 691 (s_X9_closeGroup hq2) (sk_td o_law6 18 rfl) rfl lv_L_81 rfl rfl rfl sz_44 ⟨Nat.le_of_ble_eq_true rfl, Nat.le_of_ble_eq_true rfl, Nat.le_of_ble_eq_true rfl, Nat.le_of_ble_eq_true rfl⟩ (Nat.le_of_ble_eq_true rfl) ?_
  refine sg_ic_eq 1417 694 (sk_td o_law6 19 rfl) (by decide) rfl (fun _ => ?_) (fun hc => absurd rfl hc)
  exact kk _ hR2
set_option maxRecDepth 100000 in
set_option maxHeartbeats 4000000 in
theorem law_c16 {l : Launch} {nm : String} {L i : Nat} {xs : Nat → Int32} {d : sk_D} (hL : L ≤ 2560) (hi : i + 5 ≤ L) (hR : sk_R d) (kk : ∀ d2, sk_R d2 → sk_G l room_1 (m_law nm) (sk_ExL L xs) sk_ZL 171 56719 1417 [some (.inr (.inr (some (9999, 0)))), some (.inr (.inr (some (0, 0)))), some (.inr (.inr (some (44, 0)))), some (.inl (nI i))] [] (sk_mm d2)) : sk_G l room_1 (m_law nm) (sk_ExL L xs) sk_ZL 171 56719 696 [some (.inr (.inr (some (9999, 0)))), some (.inr (.inr (some (0, 0)))), some (.inr (.inr (some (44, 0)))), some (.inl (nI i))] [] (sk_mm d) := by
  obtain ⟨a, hq1, hq2⟩ := pz_groups hR
  refine sg_aload_n 697 (sk_td o_law6 22 rfl) rfl rfl ?_
  refine sm_callL0i 700 (s_X8_groups hq1) (sk_td o_law6 23 rfl) rfl lv_L_82 rfl rfl rfl sz_0 ⟨Nat.le_of_ble_eq_true rfl, Nat.le_of_ble_eq_true rfl, Nat.le_of_ble_eq_true rfl, Nat.le_of_ble_eq_true rfl⟩ (Nat.le_of_ble_eq_true rfl) ?_
  refine sg_aload_n 701 (sk_td o_law6 24 rfl) rfl rfl ?_
  refine sm_callL0i 704 (s_X9_groups hq2) (sk_td o_law6 25 rfl) rfl lv_L_85 rfl rfl rfl sz_44 ⟨Nat.le_of_ble_eq_true rfl, Nat.le_of_ble_eq_true rfl, Nat.le_of_ble_eq_true rfl, Nat.le_of_ble_eq_true rfl⟩ (Nat.le_of_ble_eq_true rfl) ?_
  refine sg_ic_eq 1417 707 (sk_td o_law6 26 rfl) (by decide) rfl (fun _ => ?_) (fun hc => absurd rfl hc)
  exact kk _ hR
set_option maxRecDepth 100000 in
set_option maxHeartbeats 4000000 in
theorem law_c17 {l : Launch} {nm : String} {L i : Nat} {xs : Nat → Int32} {d : sk_D} (hL : L ≤ 2560) (hi : i + 5 ≤ L) (hR : sk_R d) (kk : ∀ d2, sk_R d2 → sk_G l room_1 (m_law nm) (sk_ExL L xs) sk_ZL 171 56719 1417 [some (.inr (.inr (some (9999, 0)))), some (.inr (.inr (some (0, 0)))), some (.inr (.inr (some (44, 0)))), some (.inl (nI i))] [] (sk_mm d2)) : sk_G l room_1 (m_law nm) (sk_ExL L xs) sk_ZL 171 56719 709 [some (.inr (.inr (some (9999, 0)))), some (.inr (.inr (some (0, 0)))), some (.inr (.inr (some (44, 0)))), some (.inl (nI i))] [] (sk_mm d) := by
  obtain ⟨a, hq1, hq2⟩ := pz_groupLevel hR (xs (i + 1))
  refine sg_aload_n 710 (sk_td o_law6 29 rfl) rfl rfl ?_
  refine sg_aload_n 711 (sk_td o_law6 30 rfl) rfl rfl ?_
  refine sg_iload_n 712 (sk_td o_law6 31 rfl) rfl rfl ?_
  refine sg_iconst (v := (1 : Int32)) 713 (sk_td o_law6 32 rfl) rfl (by decide) ?_
  refine sg_iadd 714 (sk_td o_law6 33 rfl) rfl ?_
  refine sg_sld (n := i + 1) 715 (sk_td o_law6 34 rfl) rfl (nI_add i 1) (by omega) hL ?_
  refine sm_callL1i 718 (s_X8_groupLevel hq1) (sk_td o_law6 35 rfl) rfl lv_L_86 rfl rfl rfl sz_0 ⟨Nat.le_of_ble_eq_true rfl, Nat.le_of_ble_eq_true rfl, Nat.le_of_ble_eq_true rfl, Nat.le_of_ble_eq_true rfl⟩ (Nat.le_of_ble_eq_true rfl) ?_
  refine sg_aload_n 719 (sk_td o_law6 36 rfl) rfl rfl ?_
  refine sg_aload_n 720 (sk_td o_law6 37 rfl) rfl rfl ?_
  refine sg_iload_n 721 (sk_td o_law6 38 rfl) rfl rfl ?_
  refine sg_iconst (v := (1 : Int32)) 722 (sk_td o_law6 39 rfl) rfl (by decide) ?_
  refine sg_iadd 723 (sk_td o_law6 40 rfl) rfl ?_
  refine sg_sld (n := i + 1) 724 (sk_td o_law6 41 rfl) rfl (nI_add i 1) (by omega) hL ?_
  refine sm_callL1i 727 (s_X9_groupLevel hq2) (sk_td o_law6 42 rfl) rfl lv_L_89 rfl rfl rfl sz_44 ⟨Nat.le_of_ble_eq_true rfl, Nat.le_of_ble_eq_true rfl, Nat.le_of_ble_eq_true rfl, Nat.le_of_ble_eq_true rfl⟩ (Nat.le_of_ble_eq_true rfl) ?_
  refine sg_ic_eq 1417 730 (sk_td o_law6 43 rfl) (by decide) rfl (fun _ => ?_) (fun hc => absurd rfl hc)
  exact kk _ hR
set_option maxRecDepth 100000 in
set_option maxHeartbeats 4000000 in
theorem law_c18 {l : Launch} {nm : String} {L i : Nat} {xs : Nat → Int32} {d : sk_D} (hL : L ≤ 2560) (hi : i + 5 ≤ L) (hR : sk_R d) (kk : ∀ d2, sk_R d2 → sk_G l room_1 (m_law nm) (sk_ExL L xs) sk_ZL 171 56719 1417 [some (.inr (.inr (some (9999, 0)))), some (.inr (.inr (some (0, 0)))), some (.inr (.inr (some (44, 0)))), some (.inl (nI i))] [] (sk_mm d2)) : sk_G l room_1 (m_law nm) (sk_ExL L xs) sk_ZL 171 56719 732 [some (.inr (.inr (some (9999, 0)))), some (.inr (.inr (some (0, 0)))), some (.inr (.inr (some (44, 0)))), some (.inl (nI i))] [] (sk_mm d) := by
  obtain ⟨a, hq1, hq2⟩ := pz_size hR (xs (i + 1))
  refine sg_aload_n 733 (sk_td o_law6 46 rfl) rfl rfl ?_
  refine sg_aload_n 734 (sk_td o_law6 47 rfl) rfl rfl ?_
  refine sg_iload_n 735 (sk_td o_law6 48 rfl) rfl rfl ?_
  refine sg_iconst (v := (1 : Int32)) 736 (sk_td o_law6 49 rfl) rfl (by decide) ?_
  refine sg_iadd 737 (sk_td o_law6 50 rfl) rfl ?_
  refine sg_sld (n := i + 1) 738 (sk_td o_law6 51 rfl) rfl (nI_add i 1) (by omega) hL ?_
  refine sm_callL1i 741 (s_X8_size hq1) (sk_td o_law6 52 rfl) rfl lv_L_90 rfl rfl rfl sz_0 ⟨Nat.le_of_ble_eq_true rfl, Nat.le_of_ble_eq_true rfl, Nat.le_of_ble_eq_true rfl, Nat.le_of_ble_eq_true rfl⟩ (Nat.le_of_ble_eq_true rfl) ?_
  refine sg_aload_n 742 (sk_td o_law6 53 rfl) rfl rfl ?_
  refine sg_aload_n 743 (sk_td o_law6 54 rfl) rfl rfl ?_
  refine sg_iload_n 744 (sk_td o_law6 55 rfl) rfl rfl ?_
  refine sg_iconst (v := (1 : Int32)) 745 (sk_td o_law6 56 rfl) rfl (by decide) ?_
  refine sg_iadd 746 (sk_td o_law6 57 rfl) rfl ?_
  refine sg_sld (n := i + 1) 747 (sk_td o_law6 58 rfl) rfl (nI_add i 1) (by omega) hL ?_
  refine sm_callL1i 750 (s_X9_size hq2) (sk_td o_law6 59 rfl) rfl lv_L_93 rfl rfl rfl sz_44 ⟨Nat.le_of_ble_eq_true rfl, Nat.le_of_ble_eq_true rfl, Nat.le_of_ble_eq_true rfl, Nat.le_of_ble_eq_true rfl⟩ (Nat.le_of_ble_eq_true rfl) ?_
  refine sg_ic_eq 1417 753 (sk_td o_law7 0 rfl) (by decide) rfl (fun _ => ?_) (fun hc => absurd rfl hc)
  exact kk _ hR
set_option maxRecDepth 100000 in
set_option maxHeartbeats 4000000 in
theorem law_c19 {l : Launch} {nm : String} {L i : Nat} {xs : Nat → Int32} {d : sk_D} (hL : L ≤ 2560) (hi : i + 5 ≤ L) (hR : sk_R d) (kk : ∀ d2, sk_R d2 → sk_G l room_1 (m_law nm) (sk_ExL L xs) sk_ZL 171 56719 1417 [some (.inr (.inr (some (9999, 0)))), some (.inr (.inr (some (0, 0)))), some (.inr (.inr (some (44, 0)))), some (.inl (nI i))] [] (sk_mm d2)) : sk_G l room_1 (m_law nm) (sk_ExL L xs) sk_ZL 171 56719 755 [some (.inr (.inr (some (9999, 0)))), some (.inr (.inr (some (0, 0)))), some (.inr (.inr (some (44, 0)))), some (.inl (nI i))] [] (sk_mm d) := by
  obtain ⟨a, hq1, hq2⟩ := pz_instructor hR (xs (i + 1))
  refine sg_aload_n 756 (sk_td o_law7 3 rfl) rfl rfl ?_
  refine sg_aload_n 757 (sk_td o_law7 4 rfl) rfl rfl ?_
  refine sg_iload_n 758 (sk_td o_law7 5 rfl) rfl rfl ?_
  refine sg_iconst (v := (1 : Int32)) 759 (sk_td o_law7 6 rfl) rfl (by decide) ?_
  refine sg_iadd 760 (sk_td o_law7 7 rfl) rfl ?_
  refine sg_sld (n := i + 1) 761 (sk_td o_law7 8 rfl) rfl (nI_add i 1) (by omega) hL ?_
  refine sm_callL1i 764 (s_X8_instructor hq1) (sk_td o_law7 9 rfl) rfl lv_L_94 rfl rfl rfl sz_0 ⟨Nat.le_of_ble_eq_true rfl, Nat.le_of_ble_eq_true rfl, Nat.le_of_ble_eq_true rfl, Nat.le_of_ble_eq_true rfl⟩ (Nat.le_of_ble_eq_true rfl) ?_
  refine sg_aload_n 765 (sk_td o_law7 10 rfl) rfl rfl ?_
  refine sg_aload_n 766 (sk_td o_law7 11 rfl) rfl rfl ?_
  refine sg_iload_n 767 (sk_td o_law7 12 rfl) rfl rfl ?_
  refine sg_iconst (v := (1 : Int32)) 768 (sk_td o_law7 13 rfl) rfl (by decide) ?_
  refine sg_iadd 769 (sk_td o_law7 14 rfl) rfl ?_
  refine sg_sld (n := i + 1) 770 (sk_td o_law7 15 rfl) rfl (nI_add i 1) (by omega) hL ?_
  refine sm_callL1i 773 (s_X9_instructor hq2) (sk_td o_law7 16 rfl) rfl lv_L_97 rfl rfl rfl sz_44 ⟨Nat.le_of_ble_eq_true rfl, Nat.le_of_ble_eq_true rfl, Nat.le_of_ble_eq_true rfl, Nat.le_of_ble_eq_true rfl⟩ (Nat.le_of_ble_eq_true rfl) ?_
  refine sg_ic_eq 1417 776 (sk_td o_law7 17 rfl) (by decide) rfl (fun _ => ?_) (fun hc => absurd rfl hc)
  exact kk _ hR
set_option maxRecDepth 100000 in
set_option maxHeartbeats 4000000 in
theorem law_c20 {l : Launch} {nm : String} {L i : Nat} {xs : Nat → Int32} {d : sk_D} (hL : L ≤ 2560) (hi : i + 5 ≤ L) (hR : sk_R d) (kk : ∀ d2, sk_R d2 → sk_G l room_1 (m_law nm) (sk_ExL L xs) sk_ZL 171 56719 1417 [some (.inr (.inr (some (9999, 0)))), some (.inr (.inr (some (0, 0)))), some (.inr (.inr (some (44, 0)))), some (.inl (nI i))] [] (sk_mm d2)) : sk_G l room_1 (m_law nm) (sk_ExL L xs) sk_ZL 171 56719 778 [some (.inr (.inr (some (9999, 0)))), some (.inr (.inr (some (0, 0)))), some (.inr (.inr (some (44, 0)))), some (.inl (nI i))] [] (sk_mm d) := by
  obtain ⟨a, d1, d2, hq1, hq2, hR2⟩ := pz_assign hR
  refine sg_aload_n 779 (sk_td o_law7 20 rfl) rfl rfl ?_
  refine sm_callL0i 782 (s_X8_assign hq1) (sk_td o_law7 21 rfl) rfl lv_L_98 rfl rfl rfl sz_0 ⟨Nat.le_of_ble_eq_true rfl, Nat.le_of_ble_eq_true rfl, Nat.le_of_ble_eq_true rfl, Nat.le_of_ble_eq_true rfl⟩ (Nat.le_of_ble_eq_true rfl) ?_
  refine sg_aload_n 783 (sk_td o_law7 22 rfl) rfl rfl ?_
  refine sm_callL0i 786 (s_X9_assign hq2) (sk_td o_law7 23 rfl) rfl lv_L_101 rfl rfl rfl sz_44 ⟨Nat.le_of_ble_eq_true rfl, Nat.le_of_ble_eq_true rfl, Nat.le_of_ble_eq_true rfl, Nat.le_of_ble_eq_true rfl⟩ (Nat.le_of_ble_eq_true rfl) ?_
  refine sg_ic_eq 1417 789 (sk_td o_law7 24 rfl) (by decide) rfl (fun _ => ?_) (fun hc => absurd rfl hc)
  exact kk _ hR2
set_option maxRecDepth 100000 in
set_option maxHeartbeats 4000000 in
theorem law_c21 {l : Launch} {nm : String} {L i : Nat} {xs : Nat → Int32} {d : sk_D} (hL : L ≤ 2560) (hi : i + 5 ≤ L) (hR : sk_R d) (kk : ∀ d2, sk_R d2 → sk_G l room_1 (m_law nm) (sk_ExL L xs) sk_ZL 171 56719 1417 [some (.inr (.inr (some (9999, 0)))), some (.inr (.inr (some (0, 0)))), some (.inr (.inr (some (44, 0)))), some (.inl (nI i))] [] (sk_mm d2)) : sk_G l room_1 (m_law nm) (sk_ExL L xs) sk_ZL 171 56719 791 [some (.inr (.inr (some (9999, 0)))), some (.inr (.inr (some (0, 0)))), some (.inr (.inr (some (44, 0)))), some (.inl (nI i))] [] (sk_mm d) := by
  obtain ⟨a, hq1, hq2⟩ := pz_placed hR
  refine sg_aload_n 792 (sk_td o_law7 27 rfl) rfl rfl ?_
  refine sm_callL0i 795 (s_X8_placed hq1) (sk_td o_law7 28 rfl) rfl lv_L_102 rfl rfl rfl sz_0 ⟨Nat.le_of_ble_eq_true rfl, Nat.le_of_ble_eq_true rfl, Nat.le_of_ble_eq_true rfl, Nat.le_of_ble_eq_true rfl⟩ (Nat.le_of_ble_eq_true rfl) ?_
  refine sg_aload_n 796 (sk_td o_law7 29 rfl) rfl rfl ?_
  refine sm_callL0i 799 (s_X9_placed hq2) (sk_td o_law7 30 rfl) rfl lv_L_105 rfl rfl rfl sz_44 ⟨Nat.le_of_ble_eq_true rfl, Nat.le_of_ble_eq_true rfl, Nat.le_of_ble_eq_true rfl, Nat.le_of_ble_eq_true rfl⟩ (Nat.le_of_ble_eq_true rfl) ?_
  refine sg_ic_eq 1417 802 (sk_td o_law7 31 rfl) (by decide) rfl (fun _ => ?_) (fun hc => absurd rfl hc)
  exact kk _ hR
set_option maxRecDepth 100000 in
set_option maxHeartbeats 4000000 in
theorem law_c22 {l : Launch} {nm : String} {L i : Nat} {xs : Nat → Int32} {d : sk_D} (hL : L ≤ 2560) (hi : i + 5 ≤ L) (hR : sk_R d) (kk : ∀ d2, sk_R d2 → sk_G l room_1 (m_law nm) (sk_ExL L xs) sk_ZL 171 56719 1417 [some (.inr (.inr (some (9999, 0)))), some (.inr (.inr (some (0, 0)))), some (.inr (.inr (some (44, 0)))), some (.inl (nI i))] [] (sk_mm d2)) : sk_G l room_1 (m_law nm) (sk_ExL L xs) sk_ZL 171 56719 804 [some (.inr (.inr (some (9999, 0)))), some (.inr (.inr (some (0, 0)))), some (.inr (.inr (some (44, 0)))), some (.inl (nI i))] [] (sk_mm d) := by
  obtain ⟨a, hq1, hq2⟩ := pz_outOfLevel hR
  refine sg_aload_n 805 (sk_td o_law7 34 rfl) rfl rfl ?_
  refine sm_callL0i 808 (s_X8_outOfLevel hq1) (sk_td o_law7 35 rfl) rfl lv_L_106 rfl rfl rfl sz_0 ⟨Nat.le_of_ble_eq_true rfl, Nat.le_of_ble_eq_true rfl, Nat.le_of_ble_eq_true rfl, Nat.le_of_ble_eq_true rfl⟩ (Nat.le_of_ble_eq_true rfl) ?_
  refine sg_aload_n 809 (sk_td o_law7 36 rfl) rfl rfl ?_
  refine sm_callL0i 812 (s_X9_outOfLevel hq2) (sk_td o_law7 37 rfl) rfl lv_L_109 rfl rfl rfl sz_44 ⟨Nat.le_of_ble_eq_true rfl, Nat.le_of_ble_eq_true rfl, Nat.le_of_ble_eq_true rfl, Nat.le_of_ble_eq_true rfl⟩ (Nat.le_of_ble_eq_true rfl) ?_
  refine sg_ic_eq 1417 815 (sk_td o_law7 38 rfl) (by decide) rfl (fun _ => ?_) (fun hc => absurd rfl hc)
  exact kk _ hR
set_option maxRecDepth 100000 in
set_option maxHeartbeats 4000000 in
theorem law_c23 {l : Launch} {nm : String} {L i : Nat} {xs : Nat → Int32} {d : sk_D} (hL : L ≤ 2560) (hi : i + 5 ≤ L) (hR : sk_R d) (kk : ∀ d2, sk_R d2 → sk_G l room_1 (m_law nm) (sk_ExL L xs) sk_ZL 171 56719 1417 [some (.inr (.inr (some (9999, 0)))), some (.inr (.inr (some (0, 0)))), some (.inr (.inr (some (44, 0)))), some (.inl (nI i))] [] (sk_mm d2)) : sk_G l room_1 (m_law nm) (sk_ExL L xs) sk_ZL 171 56719 817 [some (.inr (.inr (some (9999, 0)))), some (.inr (.inr (some (0, 0)))), some (.inr (.inr (some (44, 0)))), some (.inl (nI i))] [] (sk_mm d) := by
  obtain ⟨a, d1, d2, hq1, hq2, hR2⟩ := pz_extraPlaced hR (xs (i + 1)) (xs (i + 2)) (xs (i + 3))
  refine sg_aload_n 818 (sk_td o_law7 41 rfl) rfl rfl ?_
  refine sg_aload_n 819 (sk_td o_law7 42 rfl) rfl rfl ?_
  refine sg_iload_n 820 (sk_td o_law7 43 rfl) rfl rfl ?_
  refine sg_iconst (v := (1 : Int32)) 821 (sk_td o_law7 44 rfl) rfl (by decide) ?_
  refine sg_iadd 822 (sk_td o_law7 45 rfl) rfl ?_
  refine sg_sld (n := i + 1) 823 (sk_td o_law7 46 rfl) rfl (nI_add i 1) (by omega) hL ?_
  refine sg_aload_n 824 (sk_td o_law7 47 rfl) rfl rfl ?_
  refine sg_iload_n 825 (sk_td o_law7 48 rfl) rfl rfl ?_
  refine sg_iconst (v := (2 : Int32)) 826 (sk_td o_law7 49 rfl) rfl (by decide) ?_
  refine sg_iadd 827 (sk_td o_law7 50 rfl) rfl ?_
  refine sg_sld (n := i + 2) 828 (sk_td o_law7 51 rfl) rfl (nI_add i 2) (by omega) hL ?_
  refine sg_aload_n 829 (sk_td o_law7 52 rfl) rfl rfl ?_
  refine sg_iload_n 830 (sk_td o_law7 53 rfl) rfl rfl ?_
  refine sg_iconst (v := (3 : Int32)) 831 (sk_td o_law7 54 rfl) rfl (by decide) ?_
  refine sg_iadd 832 (sk_td o_law7 55 rfl) rfl ?_
  refine sg_sld (n := i + 3) 833 (sk_td o_law7 56 rfl) rfl (nI_add i 3) (by omega) hL ?_
  refine sm_callL3i 836 (s_X8_extraPlaced hq1) (sk_td o_law7 57 rfl) rfl lv_L_110 rfl rfl rfl sz_0 ⟨Nat.le_of_ble_eq_true rfl, Nat.le_of_ble_eq_true rfl, Nat.le_of_ble_eq_true rfl, Nat.le_of_ble_eq_true rfl⟩ (Nat.le_of_ble_eq_true rfl) ?_
  refine sg_aload_n 837 (sk_td o_law7 58 rfl) rfl rfl ?_
  refine sg_aload_n 838 (sk_td o_law7 59 rfl) rfl rfl ?_
  refine sg_iload_n 839 (sk_td o_law8 0 rfl) rfl rfl ?_
  refine sg_iconst (v := (1 : Int32)) 840 (sk_td o_law8 1 rfl) rfl (by decide) ?_
  refine sg_iadd 841 (sk_td o_law8 2 rfl) rfl ?_
  refine sg_sld (n := i + 1) 842 (sk_td o_law8 3 rfl) rfl (nI_add i 1) (by omega) hL ?_
  refine sg_aload_n 843 (sk_td o_law8 4 rfl) rfl rfl ?_
  refine sg_iload_n 844 (sk_td o_law8 5 rfl) rfl rfl ?_
  refine sg_iconst (v := (2 : Int32)) 845 (sk_td o_law8 6 rfl) rfl (by decide) ?_
  refine sg_iadd 846 (sk_td o_law8 7 rfl) rfl ?_
  refine sg_sld (n := i + 2) 847 (sk_td o_law8 8 rfl) rfl (nI_add i 2) (by omega) hL ?_
  refine sg_aload_n 848 (sk_td o_law8 9 rfl) rfl rfl ?_
  refine sg_iload_n 849 (sk_td o_law8 10 rfl) rfl rfl ?_
  refine sg_iconst (v := (3 : Int32)) 850 (sk_td o_law8 11 rfl) rfl (by decide) ?_
  refine sg_iadd 851 (sk_td o_law8 12 rfl) rfl ?_
  refine sg_sld (n := i + 3) 852 (sk_td o_law8 13 rfl) rfl (nI_add i 3) (by omega) hL ?_
  refine sm_callL3i 855 (s_X9_extraPlaced hq2) (sk_td o_law8 14 rfl) rfl lv_L_113 rfl rfl rfl sz_44 ⟨Nat.le_of_ble_eq_true rfl, Nat.le_of_ble_eq_true rfl, Nat.le_of_ble_eq_true rfl, Nat.le_of_ble_eq_true rfl⟩ (Nat.le_of_ble_eq_true rfl) ?_
  refine sg_ic_eq 1417 858 (sk_td o_law8 15 rfl) (by decide) rfl (fun _ => ?_) (fun hc => absurd rfl hc)
  exact kk _ hR2
set_option maxRecDepth 100000 in
set_option maxHeartbeats 4000000 in
theorem law_c24 {l : Launch} {nm : String} {L i : Nat} {xs : Nat → Int32} {d : sk_D} (hL : L ≤ 2560) (hi : i + 5 ≤ L) (hR : sk_R d) (kk : ∀ d2, sk_R d2 → sk_G l room_1 (m_law nm) (sk_ExL L xs) sk_ZL 171 56719 1417 [some (.inr (.inr (some (9999, 0)))), some (.inr (.inr (some (0, 0)))), some (.inr (.inr (some (44, 0)))), some (.inl (nI i))] [] (sk_mm d2)) : sk_G l room_1 (m_law nm) (sk_ExL L xs) sk_ZL 171 56719 860 [some (.inr (.inr (some (9999, 0)))), some (.inr (.inr (some (0, 0)))), some (.inr (.inr (some (44, 0)))), some (.inl (nI i))] [] (sk_mm d) := by
  obtain ⟨a, d1, d2, hq1, hq2, hR2⟩ := pz_splitGain hR (xs (i + 1))
  refine sg_aload_n 861 (sk_td o_law8 18 rfl) rfl rfl ?_
  refine sg_aload_n 862 (sk_td o_law8 19 rfl) rfl rfl ?_
  refine sg_iload_n 863 (sk_td o_law8 20 rfl) rfl rfl ?_
  refine sg_iconst (v := (1 : Int32)) 864 (sk_td o_law8 21 rfl) rfl (by decide) ?_
  refine sg_iadd 865 (sk_td o_law8 22 rfl) rfl ?_
  refine sg_sld (n := i + 1) 866 (sk_td o_law8 23 rfl) rfl (nI_add i 1) (by omega) hL ?_
  refine sm_callL1i 869 (s_X8_splitGain hq1) (sk_td o_law8 24 rfl) rfl lv_L_114 rfl rfl rfl sz_0 ⟨Nat.le_of_ble_eq_true rfl, Nat.le_of_ble_eq_true rfl, Nat.le_of_ble_eq_true rfl, Nat.le_of_ble_eq_true rfl⟩ (Nat.le_of_ble_eq_true rfl) ?_
  refine sg_aload_n 870 (sk_td o_law8 25 rfl) rfl rfl ?_
  refine sg_aload_n 871 (sk_td o_law8 26 rfl) rfl rfl ?_
  refine sg_iload_n 872 (sk_td o_law8 27 rfl) rfl rfl ?_
  refine sg_iconst (v := (1 : Int32)) 873 (sk_td o_law8 28 rfl) rfl (by decide) ?_
  refine sg_iadd 874 (sk_td o_law8 29 rfl) rfl ?_
  refine sg_sld (n := i + 1) 875 (sk_td o_law8 30 rfl) rfl (nI_add i 1) (by omega) hL ?_
  refine sm_callL1i 878 (s_X9_splitGain hq2) (sk_td o_law8 31 rfl) rfl lv_L_117 rfl rfl rfl sz_44 ⟨Nat.le_of_ble_eq_true rfl, Nat.le_of_ble_eq_true rfl, Nat.le_of_ble_eq_true rfl, Nat.le_of_ble_eq_true rfl⟩ (Nat.le_of_ble_eq_true rfl) ?_
  refine sg_ic_eq 1417 881 (sk_td o_law8 32 rfl) (by decide) rfl (fun _ => ?_) (fun hc => absurd rfl hc)
  exact kk _ hR2
set_option maxRecDepth 100000 in
set_option maxHeartbeats 4000000 in
theorem law_c25 {l : Launch} {nm : String} {L i : Nat} {xs : Nat → Int32} {d : sk_D} (hL : L ≤ 2560) (hi : i + 5 ≤ L) (hR : sk_R d) (kk : ∀ d2, sk_R d2 → sk_G l room_1 (m_law nm) (sk_ExL L xs) sk_ZL 171 56719 1417 [some (.inr (.inr (some (9999, 0)))), some (.inr (.inr (some (0, 0)))), some (.inr (.inr (some (44, 0)))), some (.inl (nI i))] [] (sk_mm d2)) : sk_G l room_1 (m_law nm) (sk_ExL L xs) sk_ZL 171 56719 883 [some (.inr (.inr (some (9999, 0)))), some (.inr (.inr (some (0, 0)))), some (.inr (.inr (some (44, 0)))), some (.inl (nI i))] [] (sk_mm d) := by
  obtain ⟨a, d1, d2, hq1, hq2, hR2⟩ := pz_hire hR (xs (i + 1)) (xs (i + 2)) (xs (i + 3)) (xs (i + 4))
  refine sg_aload_n 884 (sk_td o_law8 35 rfl) rfl rfl ?_
  refine sg_aload_n 885 (sk_td o_law8 36 rfl) rfl rfl ?_
  refine sg_iload_n 886 (sk_td o_law8 37 rfl) rfl rfl ?_
  refine sg_iconst (v := (1 : Int32)) 887 (sk_td o_law8 38 rfl) rfl (by decide) ?_
  refine sg_iadd 888 (sk_td o_law8 39 rfl) rfl ?_
  refine sg_sld (n := i + 1) 889 (sk_td o_law8 40 rfl) rfl (nI_add i 1) (by omega) hL ?_
  refine sg_aload_n 890 (sk_td o_law8 41 rfl) rfl rfl ?_
  refine sg_iload_n 891 (sk_td o_law8 42 rfl) rfl rfl ?_
  refine sg_iconst (v := (2 : Int32)) 892 (sk_td o_law8 43 rfl) rfl (by decide) ?_
  refine sg_iadd 893 (sk_td o_law8 44 rfl) rfl ?_
  refine sg_sld (n := i + 2) 894 (sk_td o_law8 45 rfl) rfl (nI_add i 2) (by omega) hL ?_
  refine sg_aload_n 895 (sk_td o_law8 46 rfl) rfl rfl ?_
  refine sg_iload_n 896 (sk_td o_law8 47 rfl) rfl rfl ?_
  refine sg_iconst (v := (3 : Int32)) 897 (sk_td o_law8 48 rfl) rfl (by decide) ?_
  refine sg_iadd 898 (sk_td o_law8 49 rfl) rfl ?_
  refine sg_sld (n := i + 3) 899 (sk_td o_law8 50 rfl) rfl (nI_add i 3) (by omega) hL ?_
  refine sg_aload_n 900 (sk_td o_law8 51 rfl) rfl rfl ?_
  refine sg_iload_n 901 (sk_td o_law8 52 rfl) rfl rfl ?_
  refine sg_iconst (v := (4 : Int32)) 902 (sk_td o_law8 53 rfl) rfl (by decide) ?_
  refine sg_iadd 903 (sk_td o_law8 54 rfl) rfl ?_
  refine sg_sld (n := i + 4) 904 (sk_td o_law8 55 rfl) rfl (nI_add i 4) (by omega) hL ?_
  refine sm_callL4i 907 (s_X8_hire hq1) (sk_td o_law8 56 rfl) rfl lv_L_118 rfl rfl rfl sz_0 ⟨Nat.le_of_ble_eq_true rfl, Nat.le_of_ble_eq_true rfl, Nat.le_of_ble_eq_true rfl, Nat.le_of_ble_eq_true rfl⟩ (Nat.le_of_ble_eq_true rfl) ?_
  refine sg_aload_n 908 (sk_td o_law8 57 rfl) rfl rfl ?_
  refine sg_aload_n 909 (sk_td o_law8 58 rfl) rfl rfl ?_
  refine sg_iload_n 910 (sk_td o_law8 59 rfl) rfl rfl ?_
  refine sg_iconst (v := (1 : Int32)) 911 (sk_td o_law9 0 rfl) rfl (by decide) ?_
  refine sg_iadd 912 (sk_td o_law9 1 rfl) rfl ?_
  refine sg_sld (n := i + 1) 913 (sk_td o_law9 2 rfl) rfl (nI_add i 1) (by omega) hL ?_
  refine sg_aload_n 914 (sk_td o_law9 3 rfl) rfl rfl ?_
  refine sg_iload_n 915 (sk_td o_law9 4 rfl) rfl rfl ?_
  refine sg_iconst (v := (2 : Int32)) 916 (sk_td o_law9 5 rfl) rfl (by decide) ?_
  refine sg_iadd 917 (sk_td o_law9 6 rfl) rfl ?_
  refine sg_sld (n := i + 2) 918 (sk_td o_law9 7 rfl) rfl (nI_add i 2) (by omega) hL ?_
  refine sg_aload_n 919 (sk_td o_law9 8 rfl) rfl rfl ?_
  refine sg_iload_n 920 (sk_td o_law9 9 rfl) rfl rfl ?_
  refine sg_iconst (v := (3 : Int32)) 921 (sk_td o_law9 10 rfl) rfl (by decide) ?_
  refine sg_iadd 922 (sk_td o_law9 11 rfl) rfl ?_
  refine sg_sld (n := i + 3) 923 (sk_td o_law9 12 rfl) rfl (nI_add i 3) (by omega) hL ?_
  refine sg_aload_n 924 (sk_td o_law9 13 rfl) rfl rfl ?_
  refine sg_iload_n 925 (sk_td o_law9 14 rfl) rfl rfl ?_
  refine sg_iconst (v := (4 : Int32)) 926 (sk_td o_law9 15 rfl) rfl (by decide) ?_
  refine sg_iadd 927 (sk_td o_law9 16 rfl) rfl ?_
  refine sg_sld (n := i + 4) 928 (sk_td o_law9 17 rfl) rfl (nI_add i 4) (by omega) hL ?_
  refine sm_callL4i 931 (s_X9_hire hq2) (sk_td o_law9 18 rfl) rfl lv_L_122 rfl rfl rfl sz_44 ⟨Nat.le_of_ble_eq_true rfl, Nat.le_of_ble_eq_true rfl, Nat.le_of_ble_eq_true rfl, Nat.le_of_ble_eq_true rfl⟩ (Nat.le_of_ble_eq_true rfl) ?_
  refine sg_ic_eq 1417 934 (sk_td o_law9 19 rfl) (by decide) rfl (fun _ => ?_) (fun hc => absurd rfl hc)
  exact kk _ hR2
set_option maxRecDepth 100000 in
set_option maxHeartbeats 4000000 in
theorem law_c26 {l : Launch} {nm : String} {L i : Nat} {xs : Nat → Int32} {d : sk_D} (hL : L ≤ 2560) (hi : i + 5 ≤ L) (hR : sk_R d) (kk : ∀ d2, sk_R d2 → sk_G l room_1 (m_law nm) (sk_ExL L xs) sk_ZL 171 56719 1417 [some (.inr (.inr (some (9999, 0)))), some (.inr (.inr (some (0, 0)))), some (.inr (.inr (some (44, 0)))), some (.inl (nI i))] [] (sk_mm d2)) : sk_G l room_1 (m_law nm) (sk_ExL L xs) sk_ZL 171 56719 936 [some (.inr (.inr (some (9999, 0)))), some (.inr (.inr (some (0, 0)))), some (.inr (.inr (some (44, 0)))), some (.inl (nI i))] [] (sk_mm d) := by
  obtain ⟨a, d1, d2, hq1, hq2, hR2⟩ := pz_dismiss hR (xs (i + 1))
  refine sg_aload_n 937 (sk_td o_law9 22 rfl) rfl rfl ?_
  refine sg_aload_n 938 (sk_td o_law9 23 rfl) rfl rfl ?_
  refine sg_iload_n 939 (sk_td o_law9 24 rfl) rfl rfl ?_
  refine sg_iconst (v := (1 : Int32)) 940 (sk_td o_law9 25 rfl) rfl (by decide) ?_
  refine sg_iadd 941 (sk_td o_law9 26 rfl) rfl ?_
  refine sg_sld (n := i + 1) 942 (sk_td o_law9 27 rfl) rfl (nI_add i 1) (by omega) hL ?_
  refine sm_callL1i 945 (s_X8_dismiss hq1) (sk_td o_law9 28 rfl) rfl lv_L_123 rfl rfl rfl sz_0 ⟨Nat.le_of_ble_eq_true rfl, Nat.le_of_ble_eq_true rfl, Nat.le_of_ble_eq_true rfl, Nat.le_of_ble_eq_true rfl⟩ (Nat.le_of_ble_eq_true rfl) ?_
  refine sg_aload_n 946 (sk_td o_law9 29 rfl) rfl rfl ?_
  refine sg_aload_n 947 (sk_td o_law9 30 rfl) rfl rfl ?_
  refine sg_iload_n 948 (sk_td o_law9 31 rfl) rfl rfl ?_
  refine sg_iconst (v := (1 : Int32)) 949 (sk_td o_law9 32 rfl) rfl (by decide) ?_
  refine sg_iadd 950 (sk_td o_law9 33 rfl) rfl ?_
  refine sg_sld (n := i + 1) 951 (sk_td o_law9 34 rfl) rfl (nI_add i 1) (by omega) hL ?_
  refine sm_callL1i 954 (s_X9_dismiss hq2) (sk_td o_law9 35 rfl) rfl lv_L_126 rfl rfl rfl sz_44 ⟨Nat.le_of_ble_eq_true rfl, Nat.le_of_ble_eq_true rfl, Nat.le_of_ble_eq_true rfl, Nat.le_of_ble_eq_true rfl⟩ (Nat.le_of_ble_eq_true rfl) ?_
  refine sg_ic_eq 1417 957 (sk_td o_law9 36 rfl) (by decide) rfl (fun _ => ?_) (fun hc => absurd rfl hc)
  exact kk _ hR2
set_option maxRecDepth 100000 in
set_option maxHeartbeats 4000000 in
theorem law_c27 {l : Launch} {nm : String} {L i : Nat} {xs : Nat → Int32} {d : sk_D} (hL : L ≤ 2560) (hi : i + 5 ≤ L) (hR : sk_R d) (kk : ∀ d2, sk_R d2 → sk_G l room_1 (m_law nm) (sk_ExL L xs) sk_ZL 171 56719 1417 [some (.inr (.inr (some (9999, 0)))), some (.inr (.inr (some (0, 0)))), some (.inr (.inr (some (44, 0)))), some (.inl (nI i))] [] (sk_mm d2)) : sk_G l room_1 (m_law nm) (sk_ExL L xs) sk_ZL 171 56719 959 [some (.inr (.inr (some (9999, 0)))), some (.inr (.inr (some (0, 0)))), some (.inr (.inr (some (44, 0)))), some (.inl (nI i))] [] (sk_mm d) := by
  obtain ⟨a, hq1, hq2⟩ := pz_instructors hR
  refine sg_aload_n 960 (sk_td o_law9 39 rfl) rfl rfl ?_
  refine sm_callL0i 963 (s_X8_instructors hq1) (sk_td o_law9 40 rfl) rfl lv_L_127 rfl rfl rfl sz_0 ⟨Nat.le_of_ble_eq_true rfl, Nat.le_of_ble_eq_true rfl, Nat.le_of_ble_eq_true rfl, Nat.le_of_ble_eq_true rfl⟩ (Nat.le_of_ble_eq_true rfl) ?_
  refine sg_aload_n 964 (sk_td o_law9 41 rfl) rfl rfl ?_
  refine sm_callL0i 967 (s_X9_instructors hq2) (sk_td o_law9 42 rfl) rfl lv_L_130 rfl rfl rfl sz_44 ⟨Nat.le_of_ble_eq_true rfl, Nat.le_of_ble_eq_true rfl, Nat.le_of_ble_eq_true rfl, Nat.le_of_ble_eq_true rfl⟩ (Nat.le_of_ble_eq_true rfl) ?_
  refine sg_ic_eq 1417 970 (sk_td o_law9 43 rfl) (by decide) rfl (fun _ => ?_) (fun hc => absurd rfl hc)
  exact kk _ hR
set_option maxRecDepth 100000 in
set_option maxHeartbeats 4000000 in
theorem law_c28 {l : Launch} {nm : String} {L i : Nat} {xs : Nat → Int32} {d : sk_D} (hL : L ≤ 2560) (hi : i + 5 ≤ L) (hR : sk_R d) (kk : ∀ d2, sk_R d2 → sk_G l room_1 (m_law nm) (sk_ExL L xs) sk_ZL 171 56719 1417 [some (.inr (.inr (some (9999, 0)))), some (.inr (.inr (some (0, 0)))), some (.inr (.inr (some (44, 0)))), some (.inl (nI i))] [] (sk_mm d2)) : sk_G l room_1 (m_law nm) (sk_ExL L xs) sk_ZL 171 56719 972 [some (.inr (.inr (some (9999, 0)))), some (.inr (.inr (some (0, 0)))), some (.inr (.inr (some (44, 0)))), some (.inl (nI i))] [] (sk_mm d) := by
  obtain ⟨a, hq1, hq2⟩ := pz_canTeach hR (xs (i + 1)) (xs (i + 2))
  refine sg_aload_n 973 (sk_td o_law9 46 rfl) rfl rfl ?_
  refine sg_aload_n 974 (sk_td o_law9 47 rfl) rfl rfl ?_
  refine sg_iload_n 975 (sk_td o_law9 48 rfl) rfl rfl ?_
  refine sg_iconst (v := (1 : Int32)) 976 (sk_td o_law9 49 rfl) rfl (by decide) ?_
  refine sg_iadd 977 (sk_td o_law9 50 rfl) rfl ?_
  refine sg_sld (n := i + 1) 978 (sk_td o_law9 51 rfl) rfl (nI_add i 1) (by omega) hL ?_
  refine sg_aload_n 979 (sk_td o_law9 52 rfl) rfl rfl ?_
  refine sg_iload_n 980 (sk_td o_law9 53 rfl) rfl rfl ?_
  refine sg_iconst (v := (2 : Int32)) 981 (sk_td o_law9 54 rfl) rfl (by decide) ?_
  refine sg_iadd 982 (sk_td o_law9 55 rfl) rfl ?_
  refine sg_sld (n := i + 2) 983 (sk_td o_law9 56 rfl) rfl (nI_add i 2) (by omega) hL ?_
  refine sm_callL2i 986 (s_X8_canTeach hq1) (sk_td o_law9 57 rfl) rfl lv_L_131 rfl rfl rfl sz_0 ⟨Nat.le_of_ble_eq_true rfl, Nat.le_of_ble_eq_true rfl, Nat.le_of_ble_eq_true rfl, Nat.le_of_ble_eq_true rfl⟩ (Nat.le_of_ble_eq_true rfl) ?_
  refine sg_aload_n 987 (sk_td o_law9 58 rfl) rfl rfl ?_
  refine sg_aload_n 988 (sk_td o_law9 59 rfl) rfl rfl ?_
  refine sg_iload_n 989 (sk_td o_law10 0 rfl) rfl rfl ?_
  refine sg_iconst (v := (1 : Int32)) 990 (sk_td o_law10 1 rfl) rfl (by decide) ?_
  refine sg_iadd 991 (sk_td o_law10 2 rfl) rfl ?_
  refine sg_sld (n := i + 1) 992 (sk_td o_law10 3 rfl) rfl (nI_add i 1) (by omega) hL ?_
  refine sg_aload_n 993 (sk_td o_law10 4 rfl) rfl rfl ?_
  refine sg_iload_n 994 (sk_td o_law10 5 rfl) rfl rfl ?_
  refine sg_iconst (v := (2 : Int32)) 995 (sk_td o_law10 6 rfl) rfl (by decide) ?_
  refine sg_iadd 996 (sk_td o_law10 7 rfl) rfl ?_
  refine sg_sld (n := i + 2) 997 (sk_td o_law10 8 rfl) rfl (nI_add i 2) (by omega) hL ?_
  refine sm_callL2i 1000 (s_X9_canTeach hq2) (sk_td o_law10 9 rfl) rfl lv_L_134 rfl rfl rfl sz_44 ⟨Nat.le_of_ble_eq_true rfl, Nat.le_of_ble_eq_true rfl, Nat.le_of_ble_eq_true rfl, Nat.le_of_ble_eq_true rfl⟩ (Nat.le_of_ble_eq_true rfl) ?_
  refine sg_ic_eq 1417 1003 (sk_td o_law10 10 rfl) (by decide) rfl (fun _ => ?_) (fun hc => absurd rfl hc)
  exact kk _ hR
set_option maxRecDepth 100000 in
set_option maxHeartbeats 4000000 in
theorem law_c29 {l : Launch} {nm : String} {L i : Nat} {xs : Nat → Int32} {d : sk_D} (hL : L ≤ 2560) (hi : i + 5 ≤ L) (hR : sk_R d) (kk : ∀ d2, sk_R d2 → sk_G l room_1 (m_law nm) (sk_ExL L xs) sk_ZL 171 56719 1417 [some (.inr (.inr (some (9999, 0)))), some (.inr (.inr (some (0, 0)))), some (.inr (.inr (some (44, 0)))), some (.inl (nI i))] [] (sk_mm d2)) : sk_G l room_1 (m_law nm) (sk_ExL L xs) sk_ZL 171 56719 1005 [some (.inr (.inr (some (9999, 0)))), some (.inr (.inr (some (0, 0)))), some (.inr (.inr (some (44, 0)))), some (.inl (nI i))] [] (sk_mm d) := by
  obtain ⟨a, d1, d2, hq1, hq2, hR2⟩ := pz_staff hR
  refine sg_aload_n 1006 (sk_td o_law10 13 rfl) rfl rfl ?_
  refine sm_callL0i 1009 (s_X8_staff hq1) (sk_td o_law10 14 rfl) rfl lv_L_135 rfl rfl rfl sz_0 ⟨Nat.le_of_ble_eq_true rfl, Nat.le_of_ble_eq_true rfl, Nat.le_of_ble_eq_true rfl, Nat.le_of_ble_eq_true rfl⟩ (Nat.le_of_ble_eq_true rfl) ?_
  refine sg_aload_n 1010 (sk_td o_law10 15 rfl) rfl rfl ?_
  refine sm_callL0i 1013 (s_X9_staff hq2) (sk_td o_law10 16 rfl) rfl lv_L_138 rfl rfl rfl sz_44 ⟨Nat.le_of_ble_eq_true rfl, Nat.le_of_ble_eq_true rfl, Nat.le_of_ble_eq_true rfl, Nat.le_of_ble_eq_true rfl⟩ (Nat.le_of_ble_eq_true rfl) ?_
  refine sg_ic_eq 1417 1016 (sk_td o_law10 17 rfl) (by decide) rfl (fun _ => ?_) (fun hc => absurd rfl hc)
  exact kk _ hR2
set_option maxRecDepth 100000 in
set_option maxHeartbeats 4000000 in
theorem law_c30 {l : Launch} {nm : String} {L i : Nat} {xs : Nat → Int32} {d : sk_D} (hL : L ≤ 2560) (hi : i + 5 ≤ L) (hR : sk_R d) (kk : ∀ d2, sk_R d2 → sk_G l room_1 (m_law nm) (sk_ExL L xs) sk_ZL 171 56719 1417 [some (.inr (.inr (some (9999, 0)))), some (.inr (.inr (some (0, 0)))), some (.inr (.inr (some (44, 0)))), some (.inl (nI i))] [] (sk_mm d2)) : sk_G l room_1 (m_law nm) (sk_ExL L xs) sk_ZL 171 56719 1018 [some (.inr (.inr (some (9999, 0)))), some (.inr (.inr (some (0, 0)))), some (.inr (.inr (some (44, 0)))), some (.inl (nI i))] [] (sk_mm d) := by
  obtain ⟨a, d1, d2, hq1, hq2, hR2⟩ := pz_pay hR (xs (i + 1))
  refine sg_aload_n 1019 (sk_td o_law10 20 rfl) rfl rfl ?_
  refine sg_aload_n 1020 (sk_td o_law10 21 rfl) rfl rfl ?_
  refine sg_iload_n 1021 (sk_td o_law10 22 rfl) rfl rfl ?_
  refine sg_iconst (v := (1 : Int32)) 1022 (sk_td o_law10 23 rfl) rfl (by decide) ?_
  refine sg_iadd 1023 (sk_td o_law10 24 rfl) rfl ?_
  refine sg_sld (n := i + 1) 1024 (sk_td o_law10 25 rfl) rfl (nI_add i 1) (by omega) hL ?_
  refine sm_callL1i 1027 (s_X8_pay hq1) (sk_td o_law10 26 rfl) rfl lv_L_139 rfl rfl rfl sz_0 ⟨Nat.le_of_ble_eq_true rfl, Nat.le_of_ble_eq_true rfl, Nat.le_of_ble_eq_true rfl, Nat.le_of_ble_eq_true rfl⟩ (Nat.le_of_ble_eq_true rfl) ?_
  refine sg_aload_n 1028 (sk_td o_law10 27 rfl) rfl rfl ?_
  refine sg_aload_n 1029 (sk_td o_law10 28 rfl) rfl rfl ?_
  refine sg_iload_n 1030 (sk_td o_law10 29 rfl) rfl rfl ?_
  refine sg_iconst (v := (1 : Int32)) 1031 (sk_td o_law10 30 rfl) rfl (by decide) ?_
  refine sg_iadd 1032 (sk_td o_law10 31 rfl) rfl ?_
  refine sg_sld (n := i + 1) 1033 (sk_td o_law10 32 rfl) rfl (nI_add i 1) (by omega) hL ?_
  refine sm_callL1i 1036 (s_X9_pay hq2) (sk_td o_law10 33 rfl) rfl lv_L_142 rfl rfl rfl sz_44 ⟨Nat.le_of_ble_eq_true rfl, Nat.le_of_ble_eq_true rfl, Nat.le_of_ble_eq_true rfl, Nat.le_of_ble_eq_true rfl⟩ (Nat.le_of_ble_eq_true rfl) ?_
  refine sg_ic_eq 1417 1039 (sk_td o_law10 34 rfl) (by decide) rfl (fun _ => ?_) (fun hc => absurd rfl hc)
  exact kk _ hR2
set_option maxRecDepth 100000 in
set_option maxHeartbeats 4000000 in
theorem law_c31 {l : Launch} {nm : String} {L i : Nat} {xs : Nat → Int32} {d : sk_D} (hL : L ≤ 2560) (hi : i + 5 ≤ L) (hR : sk_R d) (kk : ∀ d2, sk_R d2 → sk_G l room_1 (m_law nm) (sk_ExL L xs) sk_ZL 171 56719 1417 [some (.inr (.inr (some (9999, 0)))), some (.inr (.inr (some (0, 0)))), some (.inr (.inr (some (44, 0)))), some (.inl (nI i))] [] (sk_mm d2)) : sk_G l room_1 (m_law nm) (sk_ExL L xs) sk_ZL 171 56719 1041 [some (.inr (.inr (some (9999, 0)))), some (.inr (.inr (some (0, 0)))), some (.inr (.inr (some (44, 0)))), some (.inl (nI i))] [] (sk_mm d) := by
  obtain ⟨a, hq1, hq2⟩ := pz_earnings hR (xs (i + 1))
  refine sg_aload_n 1042 (sk_td o_law10 37 rfl) rfl rfl ?_
  refine sg_aload_n 1043 (sk_td o_law10 38 rfl) rfl rfl ?_
  refine sg_iload_n 1044 (sk_td o_law10 39 rfl) rfl rfl ?_
  refine sg_iconst (v := (1 : Int32)) 1045 (sk_td o_law10 40 rfl) rfl (by decide) ?_
  refine sg_iadd 1046 (sk_td o_law10 41 rfl) rfl ?_
  refine sg_sld (n := i + 1) 1047 (sk_td o_law10 42 rfl) rfl (nI_add i 1) (by omega) hL ?_
  refine sm_callL1i 1050 (s_X8_earnings hq1) (sk_td o_law10 43 rfl) rfl lv_L_143 rfl rfl rfl sz_0 ⟨Nat.le_of_ble_eq_true rfl, Nat.le_of_ble_eq_true rfl, Nat.le_of_ble_eq_true rfl, Nat.le_of_ble_eq_true rfl⟩ (Nat.le_of_ble_eq_true rfl) ?_
  refine sg_aload_n 1051 (sk_td o_law10 44 rfl) rfl rfl ?_
  refine sg_aload_n 1052 (sk_td o_law10 45 rfl) rfl rfl ?_
  refine sg_iload_n 1053 (sk_td o_law10 46 rfl) rfl rfl ?_
  refine sg_iconst (v := (1 : Int32)) 1054 (sk_td o_law10 47 rfl) rfl (by decide) ?_
  refine sg_iadd 1055 (sk_td o_law10 48 rfl) rfl ?_
  refine sg_sld (n := i + 1) 1056 (sk_td o_law10 49 rfl) rfl (nI_add i 1) (by omega) hL ?_
  refine sm_callL1i 1059 (s_X9_earnings hq2) (sk_td o_law10 50 rfl) rfl lv_L_146 rfl rfl rfl sz_44 ⟨Nat.le_of_ble_eq_true rfl, Nat.le_of_ble_eq_true rfl, Nat.le_of_ble_eq_true rfl, Nat.le_of_ble_eq_true rfl⟩ (Nat.le_of_ble_eq_true rfl) ?_
  refine sg_ic_eq 1417 1062 (sk_td o_law10 51 rfl) (by decide) rfl (fun _ => ?_) (fun hc => absurd rfl hc)
  exact kk _ hR
set_option maxRecDepth 100000 in
set_option maxHeartbeats 4000000 in
theorem law_c32 {l : Launch} {nm : String} {L i : Nat} {xs : Nat → Int32} {d : sk_D} (hL : L ≤ 2560) (hi : i + 5 ≤ L) (hR : sk_R d) (kk : ∀ d2, sk_R d2 → sk_G l room_1 (m_law nm) (sk_ExL L xs) sk_ZL 171 56719 1417 [some (.inr (.inr (some (9999, 0)))), some (.inr (.inr (some (0, 0)))), some (.inr (.inr (some (44, 0)))), some (.inl (nI i))] [] (sk_mm d2)) : sk_G l room_1 (m_law nm) (sk_ExL L xs) sk_ZL 171 56719 1064 [some (.inr (.inr (some (9999, 0)))), some (.inr (.inr (some (0, 0)))), some (.inr (.inr (some (44, 0)))), some (.inl (nI i))] [] (sk_mm d) := by
  obtain ⟨a, d1, d2, hq1, hq2, hR2⟩ := pz_addLift hR (xs (i + 1)) (xs (i + 2)) (xs (i + 3))
  refine sg_aload_n 1065 (sk_td o_law10 54 rfl) rfl rfl ?_
  refine sg_aload_n 1066 (sk_td o_law10 55 rfl) rfl rfl ?_
  refine sg_iload_n 1067 (sk_td o_law10 56 rfl) rfl rfl ?_
  refine sg_iconst (v := (1 : Int32)) 1068 (sk_td o_law10 57 rfl) rfl (by decide) ?_
  refine sg_iadd 1069 (sk_td o_law10 58 rfl) rfl ?_
  refine sg_sld (n := i + 1) 1070 (sk_td o_law10 59 rfl) rfl (nI_add i 1) (by omega) hL ?_
  refine sg_aload_n 1071 (sk_td o_law11 0 rfl) rfl rfl ?_
  refine sg_iload_n 1072 (sk_td o_law11 1 rfl) rfl rfl ?_
  refine sg_iconst (v := (2 : Int32)) 1073 (sk_td o_law11 2 rfl) rfl (by decide) ?_
  refine sg_iadd 1074 (sk_td o_law11 3 rfl) rfl ?_
  refine sg_sld (n := i + 2) 1075 (sk_td o_law11 4 rfl) rfl (nI_add i 2) (by omega) hL ?_
  refine sg_aload_n 1076 (sk_td o_law11 5 rfl) rfl rfl ?_
  refine sg_iload_n 1077 (sk_td o_law11 6 rfl) rfl rfl ?_
  refine sg_iconst (v := (3 : Int32)) 1078 (sk_td o_law11 7 rfl) rfl (by decide) ?_
  refine sg_iadd 1079 (sk_td o_law11 8 rfl) rfl ?_
  refine sg_sld (n := i + 3) 1080 (sk_td o_law11 9 rfl) rfl (nI_add i 3) (by omega) hL ?_
  refine sm_callL3i 1083 (s_X8_addLift hq1) (sk_td o_law11 10 rfl) rfl lv_L_147 rfl rfl rfl sz_0 ⟨Nat.le_of_ble_eq_true rfl, Nat.le_of_ble_eq_true rfl, Nat.le_of_ble_eq_true rfl, Nat.le_of_ble_eq_true rfl⟩ (Nat.le_of_ble_eq_true rfl) ?_
  refine sg_aload_n 1084 (sk_td o_law11 11 rfl) rfl rfl ?_
  refine sg_aload_n 1085 (sk_td o_law11 12 rfl) rfl rfl ?_
  refine sg_iload_n 1086 (sk_td o_law11 13 rfl) rfl rfl ?_
  refine sg_iconst (v := (1 : Int32)) 1087 (sk_td o_law11 14 rfl) rfl (by decide) ?_
  refine sg_iadd 1088 (sk_td o_law11 15 rfl) rfl ?_
  refine sg_sld (n := i + 1) 1089 (sk_td o_law11 16 rfl) rfl (nI_add i 1) (by omega) hL ?_
  refine sg_aload_n 1090 (sk_td o_law11 17 rfl) rfl rfl ?_
  refine sg_iload_n 1091 (sk_td o_law11 18 rfl) rfl rfl ?_
  refine sg_iconst (v := (2 : Int32)) 1092 (sk_td o_law11 19 rfl) rfl (by decide) ?_
  refine sg_iadd 1093 (sk_td o_law11 20 rfl) rfl ?_
  refine sg_sld (n := i + 2) 1094 (sk_td o_law11 21 rfl) rfl (nI_add i 2) (by omega) hL ?_
  refine sg_aload_n 1095 (sk_td o_law11 22 rfl) rfl rfl ?_
  refine sg_iload_n 1096 (sk_td o_law11 23 rfl) rfl rfl ?_
  refine sg_iconst (v := (3 : Int32)) 1097 (sk_td o_law11 24 rfl) rfl (by decide) ?_
  refine sg_iadd 1098 (sk_td o_law11 25 rfl) rfl ?_
  refine sg_sld (n := i + 3) 1099 (sk_td o_law11 26 rfl) rfl (nI_add i 3) (by omega) hL ?_
  refine sm_callL3i 1102 (s_X9_addLift hq2) (sk_td o_law11 27 rfl) rfl lv_L_150 rfl rfl rfl sz_44 ⟨Nat.le_of_ble_eq_true rfl, Nat.le_of_ble_eq_true rfl, Nat.le_of_ble_eq_true rfl, Nat.le_of_ble_eq_true rfl⟩ (Nat.le_of_ble_eq_true rfl) ?_
  refine sg_ic_eq 1417 1105 (sk_td o_law11 28 rfl) (by decide) rfl (fun _ => ?_) (fun hc => absurd rfl hc)
  exact kk _ hR2
set_option maxRecDepth 100000 in
set_option maxHeartbeats 4000000 in
theorem law_c33 {l : Launch} {nm : String} {L i : Nat} {xs : Nat → Int32} {d : sk_D} (hL : L ≤ 2560) (hi : i + 5 ≤ L) (hR : sk_R d) (kk : ∀ d2, sk_R d2 → sk_G l room_1 (m_law nm) (sk_ExL L xs) sk_ZL 171 56719 1417 [some (.inr (.inr (some (9999, 0)))), some (.inr (.inr (some (0, 0)))), some (.inr (.inr (some (44, 0)))), some (.inl (nI i))] [] (sk_mm d2)) : sk_G l room_1 (m_law nm) (sk_ExL L xs) sk_ZL 171 56719 1107 [some (.inr (.inr (some (9999, 0)))), some (.inr (.inr (some (0, 0)))), some (.inr (.inr (some (44, 0)))), some (.inl (nI i))] [] (sk_mm d) := by
  obtain ⟨a, d1, d2, hq1, hq2, hR2⟩ := pz_addStop hR (xs (i + 1)) (xs (i + 2)) (xs (i + 3))
  refine sg_aload_n 1108 (sk_td o_law11 31 rfl) rfl rfl ?_
  refine sg_aload_n 1109 (sk_td o_law11 32 rfl) rfl rfl ?_
  refine sg_iload_n 1110 (sk_td o_law11 33 rfl) rfl rfl ?_
  refine sg_iconst (v := (1 : Int32)) 1111 (sk_td o_law11 34 rfl) rfl (by decide) ?_
  refine sg_iadd 1112 (sk_td o_law11 35 rfl) rfl ?_
  refine sg_sld (n := i + 1) 1113 (sk_td o_law11 36 rfl) rfl (nI_add i 1) (by omega) hL ?_
  refine sg_aload_n 1114 (sk_td o_law11 37 rfl) rfl rfl ?_
  refine sg_iload_n 1115 (sk_td o_law11 38 rfl) rfl rfl ?_
  refine sg_iconst (v := (2 : Int32)) 1116 (sk_td o_law11 39 rfl) rfl (by decide) ?_
  refine sg_iadd 1117 (sk_td o_law11 40 rfl) rfl ?_
  refine sg_sld (n := i + 2) 1118 (sk_td o_law11 41 rfl) rfl (nI_add i 2) (by omega) hL ?_
  refine sg_aload_n 1119 (sk_td o_law11 42 rfl) rfl rfl ?_
  refine sg_iload_n 1120 (sk_td o_law11 43 rfl) rfl rfl ?_
  refine sg_iconst (v := (3 : Int32)) 1121 (sk_td o_law11 44 rfl) rfl (by decide) ?_
  refine sg_iadd 1122 (sk_td o_law11 45 rfl) rfl ?_
  refine sg_sld (n := i + 3) 1123 (sk_td o_law11 46 rfl) rfl (nI_add i 3) (by omega) hL ?_
  refine sm_callL3i 1126 (s_X8_addStop hq1) (sk_td o_law11 47 rfl) rfl lv_L_151 rfl rfl rfl sz_0 ⟨Nat.le_of_ble_eq_true rfl, Nat.le_of_ble_eq_true rfl, Nat.le_of_ble_eq_true rfl, Nat.le_of_ble_eq_true rfl⟩ (Nat.le_of_ble_eq_true rfl) ?_
  refine sg_aload_n 1127 (sk_td o_law11 48 rfl) rfl rfl ?_
  refine sg_aload_n 1128 (sk_td o_law11 49 rfl) rfl rfl ?_
  refine sg_iload_n 1129 (sk_td o_law11 50 rfl) rfl rfl ?_
  refine sg_iconst (v := (1 : Int32)) 1130 (sk_td o_law11 51 rfl) rfl (by decide) ?_
  refine sg_iadd 1131 (sk_td o_law11 52 rfl) rfl ?_
  refine sg_sld (n := i + 1) 1132 (sk_td o_law11 53 rfl) rfl (nI_add i 1) (by omega) hL ?_
  refine sg_aload_n 1133 (sk_td o_law11 54 rfl) rfl rfl ?_
  refine sg_iload_n 1134 (sk_td o_law11 55 rfl) rfl rfl ?_
  refine sg_iconst (v := (2 : Int32)) 1135 (sk_td o_law11 56 rfl) rfl (by decide) ?_
  refine sg_iadd 1136 (sk_td o_law11 57 rfl) rfl ?_
  refine sg_sld (n := i + 2) 1137 (sk_td o_law11 58 rfl) rfl (nI_add i 2) (by omega) hL ?_
  refine sg_aload_n 1138 (sk_td o_law11 59 rfl) rfl rfl ?_
  refine sg_iload_n 1139 (sk_td o_law12 0 rfl) rfl rfl ?_
  refine sg_iconst (v := (3 : Int32)) 1140 (sk_td o_law12 1 rfl) rfl (by decide) ?_
  refine sg_iadd 1141 (sk_td o_law12 2 rfl) rfl ?_
  refine sg_sld (n := i + 3) 1142 (sk_td o_law12 3 rfl) rfl (nI_add i 3) (by omega) hL ?_
  refine sm_callL3i 1145 (s_X9_addStop hq2) (sk_td o_law12 4 rfl) rfl lv_L_154 rfl rfl rfl sz_44 ⟨Nat.le_of_ble_eq_true rfl, Nat.le_of_ble_eq_true rfl, Nat.le_of_ble_eq_true rfl, Nat.le_of_ble_eq_true rfl⟩ (Nat.le_of_ble_eq_true rfl) ?_
  refine sg_ic_eq 1417 1148 (sk_td o_law12 5 rfl) (by decide) rfl (fun _ => ?_) (fun hc => absurd rfl hc)
  exact kk _ hR2
set_option maxRecDepth 100000 in
set_option maxHeartbeats 4000000 in
theorem law_c34 {l : Launch} {nm : String} {L i : Nat} {xs : Nat → Int32} {d : sk_D} (hL : L ≤ 2560) (hi : i + 5 ≤ L) (hR : sk_R d) (kk : ∀ d2, sk_R d2 → sk_G l room_1 (m_law nm) (sk_ExL L xs) sk_ZL 171 56719 1417 [some (.inr (.inr (some (9999, 0)))), some (.inr (.inr (some (0, 0)))), some (.inr (.inr (some (44, 0)))), some (.inl (nI i))] [] (sk_mm d2)) : sk_G l room_1 (m_law nm) (sk_ExL L xs) sk_ZL 171 56719 1150 [some (.inr (.inr (some (9999, 0)))), some (.inr (.inr (some (0, 0)))), some (.inr (.inr (some (44, 0)))), some (.inl (nI i))] [] (sk_mm d) := by
  obtain ⟨a, d1, d2, hq1, hq2, hR2⟩ := pz_clearStops hR (xs (i + 1))
  refine sg_aload_n 1151 (sk_td o_law12 8 rfl) rfl rfl ?_
  refine sg_aload_n 1152 (sk_td o_law12 9 rfl) rfl rfl ?_
  refine sg_iload_n 1153 (sk_td o_law12 10 rfl) rfl rfl ?_
  refine sg_iconst (v := (1 : Int32)) 1154 (sk_td o_law12 11 rfl) rfl (by decide) ?_
  refine sg_iadd 1155 (sk_td o_law12 12 rfl) rfl ?_
  refine sg_sld (n := i + 1) 1156 (sk_td o_law12 13 rfl) rfl (nI_add i 1) (by omega) hL ?_
  refine sm_callL1i 1159 (s_X8_clearStops hq1) (sk_td o_law12 14 rfl) rfl lv_L_155 rfl rfl rfl sz_0 ⟨Nat.le_of_ble_eq_true rfl, Nat.le_of_ble_eq_true rfl, Nat.le_of_ble_eq_true rfl, Nat.le_of_ble_eq_true rfl⟩ (Nat.le_of_ble_eq_true rfl) ?_
  refine sg_aload_n 1160 (sk_td o_law12 15 rfl) rfl rfl ?_
  refine sg_aload_n 1161 (sk_td o_law12 16 rfl) rfl rfl ?_
  refine sg_iload_n 1162 (sk_td o_law12 17 rfl) rfl rfl ?_
  refine sg_iconst (v := (1 : Int32)) 1163 (sk_td o_law12 18 rfl) rfl (by decide) ?_
  refine sg_iadd 1164 (sk_td o_law12 19 rfl) rfl ?_
  refine sg_sld (n := i + 1) 1165 (sk_td o_law12 20 rfl) rfl (nI_add i 1) (by omega) hL ?_
  refine sm_callL1i 1168 (s_X9_clearStops hq2) (sk_td o_law12 21 rfl) rfl lv_L_158 rfl rfl rfl sz_44 ⟨Nat.le_of_ble_eq_true rfl, Nat.le_of_ble_eq_true rfl, Nat.le_of_ble_eq_true rfl, Nat.le_of_ble_eq_true rfl⟩ (Nat.le_of_ble_eq_true rfl) ?_
  refine sg_ic_eq 1417 1171 (sk_td o_law12 22 rfl) (by decide) rfl (fun _ => ?_) (fun hc => absurd rfl hc)
  exact kk _ hR2
set_option maxRecDepth 100000 in
set_option maxHeartbeats 4000000 in
theorem law_c35 {l : Launch} {nm : String} {L i : Nat} {xs : Nat → Int32} {d : sk_D} (hL : L ≤ 2560) (hi : i + 5 ≤ L) (hR : sk_R d) (kk : ∀ d2, sk_R d2 → sk_G l room_1 (m_law nm) (sk_ExL L xs) sk_ZL 171 56719 1417 [some (.inr (.inr (some (9999, 0)))), some (.inr (.inr (some (0, 0)))), some (.inr (.inr (some (44, 0)))), some (.inl (nI i))] [] (sk_mm d2)) : sk_G l room_1 (m_law nm) (sk_ExL L xs) sk_ZL 171 56719 1173 [some (.inr (.inr (some (9999, 0)))), some (.inr (.inr (some (0, 0)))), some (.inr (.inr (some (44, 0)))), some (.inl (nI i))] [] (sk_mm d) := by
  obtain ⟨a, d1, d2, hq1, hq2, hR2⟩ := pz_setStart hR (xs (i + 1)) (xs (i + 2))
  refine sg_aload_n 1174 (sk_td o_law12 25 rfl) rfl rfl ?_
  refine sg_aload_n 1175 (sk_td o_law12 26 rfl) rfl rfl ?_
  refine sg_iload_n 1176 (sk_td o_law12 27 rfl) rfl rfl ?_
  refine sg_iconst (v := (1 : Int32)) 1177 (sk_td o_law12 28 rfl) rfl (by decide) ?_
  refine sg_iadd 1178 (sk_td o_law12 29 rfl) rfl ?_
  refine sg_sld (n := i + 1) 1179 (sk_td o_law12 30 rfl) rfl (nI_add i 1) (by omega) hL ?_
  refine sg_aload_n 1180 (sk_td o_law12 31 rfl) rfl rfl ?_
  refine sg_iload_n 1181 (sk_td o_law12 32 rfl) rfl rfl ?_
  refine sg_iconst (v := (2 : Int32)) 1182 (sk_td o_law12 33 rfl) rfl (by decide) ?_
  refine sg_iadd 1183 (sk_td o_law12 34 rfl) rfl ?_
  refine sg_sld (n := i + 2) 1184 (sk_td o_law12 35 rfl) rfl (nI_add i 2) (by omega) hL ?_
  refine sm_callL2i 1187 (s_X8_setStart hq1) (sk_td o_law12 36 rfl) rfl lv_L_159 rfl rfl rfl sz_0 ⟨Nat.le_of_ble_eq_true rfl, Nat.le_of_ble_eq_true rfl, Nat.le_of_ble_eq_true rfl, Nat.le_of_ble_eq_true rfl⟩ (Nat.le_of_ble_eq_true rfl) ?_
  refine sg_aload_n 1188 (sk_td o_law12 37 rfl) rfl rfl ?_
  refine sg_aload_n 1189 (sk_td o_law12 38 rfl) rfl rfl ?_
  refine sg_iload_n 1190 (sk_td o_law12 39 rfl) rfl rfl ?_
  refine sg_iconst (v := (1 : Int32)) 1191 (sk_td o_law12 40 rfl) rfl (by decide) ?_
  refine sg_iadd 1192 (sk_td o_law12 41 rfl) rfl ?_
  refine sg_sld (n := i + 1) 1193 (sk_td o_law12 42 rfl) rfl (nI_add i 1) (by omega) hL ?_
  refine sg_aload_n 1194 (sk_td o_law12 43 rfl) rfl rfl ?_
  refine sg_iload_n 1195 (sk_td o_law12 44 rfl) rfl rfl ?_
  refine sg_iconst (v := (2 : Int32)) 1196 (sk_td o_law12 45 rfl) rfl (by decide) ?_
  refine sg_iadd 1197 (sk_td o_law12 46 rfl) rfl ?_
  refine sg_sld (n := i + 2) 1198 (sk_td o_law12 47 rfl) rfl (nI_add i 2) (by omega) hL ?_
  refine sm_callL2i 1201 (s_X9_setStart hq2) (sk_td o_law12 48 rfl) rfl lv_L_162 rfl rfl rfl sz_44 ⟨Nat.le_of_ble_eq_true rfl, Nat.le_of_ble_eq_true rfl, Nat.le_of_ble_eq_true rfl, Nat.le_of_ble_eq_true rfl⟩ (Nat.le_of_ble_eq_true rfl) ?_
  refine sg_ic_eq 1417 1204 (sk_td o_law12 49 rfl) (by decide) rfl (fun _ => ?_) (fun hc => absurd rfl hc)
  exact kk _ hR2
set_option maxRecDepth 100000 in
set_option maxHeartbeats 4000000 in
theorem law_c36 {l : Launch} {nm : String} {L i : Nat} {xs : Nat → Int32} {d : sk_D} (hL : L ≤ 2560) (hi : i + 5 ≤ L) (hR : sk_R d) (kk : ∀ d2, sk_R d2 → sk_G l room_1 (m_law nm) (sk_ExL L xs) sk_ZL 171 56719 1417 [some (.inr (.inr (some (9999, 0)))), some (.inr (.inr (some (0, 0)))), some (.inr (.inr (some (44, 0)))), some (.inl (nI i))] [] (sk_mm d2)) : sk_G l room_1 (m_law nm) (sk_ExL L xs) sk_ZL 171 56719 1206 [some (.inr (.inr (some (9999, 0)))), some (.inr (.inr (some (0, 0)))), some (.inr (.inr (some (44, 0)))), some (.inl (nI i))] [] (sk_mm d) := by
  obtain ⟨a, d1, d2, hq1, hq2, hR2⟩ := pz_simulate hR (xs (i + 1))
  refine sg_aload_n 1207 (sk_td o_law12 52 rfl) rfl rfl ?_
  refine sg_aload_n 1208 (sk_td o_law12 53 rfl) rfl rfl ?_
  refine sg_iload_n 1209 (sk_td o_law12 54 rfl) rfl rfl ?_
  refine sg_iconst (v := (1 : Int32)) 1210 (sk_td o_law12 55 rfl) rfl (by decide) ?_
  refine sg_iadd 1211 (sk_td o_law12 56 rfl) rfl ?_
  refine sg_sld (n := i + 1) 1212 (sk_td o_law12 57 rfl) rfl (nI_add i 1) (by omega) hL ?_
  refine sm_callL1i 1215 (s_X8_simulate hq1) (sk_td o_law12 58 rfl) rfl lv_L_163 rfl rfl rfl sz_0 ⟨Nat.le_of_ble_eq_true rfl, Nat.le_of_ble_eq_true rfl, Nat.le_of_ble_eq_true rfl, Nat.le_of_ble_eq_true rfl⟩ (Nat.le_of_ble_eq_true rfl) ?_
  refine sg_aload_n 1216 (sk_td o_law12 59 rfl) rfl rfl ?_
  refine sg_aload_n 1217 (sk_td o_law13 0 rfl) rfl rfl ?_
  refine sg_iload_n 1218 (sk_td o_law13 1 rfl) rfl rfl ?_
  refine sg_iconst (v := (1 : Int32)) 1219 (sk_td o_law13 2 rfl) rfl (by decide) ?_
  refine sg_iadd 1220 (sk_td o_law13 3 rfl) rfl ?_
  refine sg_sld (n := i + 1) 1221 (sk_td o_law13 4 rfl) rfl (nI_add i 1) (by omega) hL ?_
  refine sm_callL1i 1224 (s_X9_simulate hq2) (sk_td o_law13 5 rfl) rfl lv_L_166 rfl rfl rfl sz_44 ⟨Nat.le_of_ble_eq_true rfl, Nat.le_of_ble_eq_true rfl, Nat.le_of_ble_eq_true rfl, Nat.le_of_ble_eq_true rfl⟩ (Nat.le_of_ble_eq_true rfl) ?_
  refine sg_ic_eq 1417 1227 (sk_td o_law13 6 rfl) (by decide) rfl (fun _ => ?_) (fun hc => absurd rfl hc)
  exact kk _ hR2
set_option maxRecDepth 100000 in
set_option maxHeartbeats 4000000 in
theorem law_c37 {l : Launch} {nm : String} {L i : Nat} {xs : Nat → Int32} {d : sk_D} (hL : L ≤ 2560) (hi : i + 5 ≤ L) (hR : sk_R d) (kk : ∀ d2, sk_R d2 → sk_G l room_1 (m_law nm) (sk_ExL L xs) sk_ZL 171 56719 1417 [some (.inr (.inr (some (9999, 0)))), some (.inr (.inr (some (0, 0)))), some (.inr (.inr (some (44, 0)))), some (.inl (nI i))] [] (sk_mm d2)) : sk_G l room_1 (m_law nm) (sk_ExL L xs) sk_ZL 171 56719 1229 [some (.inr (.inr (some (9999, 0)))), some (.inr (.inr (some (0, 0)))), some (.inr (.inr (some (44, 0)))), some (.inl (nI i))] [] (sk_mm d) := by
  obtain ⟨a, hq1, hq2⟩ := pz_waited hR (xs (i + 1))
  refine sg_aload_n 1230 (sk_td o_law13 9 rfl) rfl rfl ?_
  refine sg_aload_n 1231 (sk_td o_law13 10 rfl) rfl rfl ?_
  refine sg_iload_n 1232 (sk_td o_law13 11 rfl) rfl rfl ?_
  refine sg_iconst (v := (1 : Int32)) 1233 (sk_td o_law13 12 rfl) rfl (by decide) ?_
  refine sg_iadd 1234 (sk_td o_law13 13 rfl) rfl ?_
  refine sg_sld (n := i + 1) 1235 (sk_td o_law13 14 rfl) rfl (nI_add i 1) (by omega) hL ?_
  refine sm_callL1i 1238 (s_X8_waited hq1) (sk_td o_law13 15 rfl) rfl lv_L_167 rfl rfl rfl sz_0 ⟨Nat.le_of_ble_eq_true rfl, Nat.le_of_ble_eq_true rfl, Nat.le_of_ble_eq_true rfl, Nat.le_of_ble_eq_true rfl⟩ (Nat.le_of_ble_eq_true rfl) ?_
  refine sg_aload_n 1239 (sk_td o_law13 16 rfl) rfl rfl ?_
  refine sg_aload_n 1240 (sk_td o_law13 17 rfl) rfl rfl ?_
  refine sg_iload_n 1241 (sk_td o_law13 18 rfl) rfl rfl ?_
  refine sg_iconst (v := (1 : Int32)) 1242 (sk_td o_law13 19 rfl) rfl (by decide) ?_
  refine sg_iadd 1243 (sk_td o_law13 20 rfl) rfl ?_
  refine sg_sld (n := i + 1) 1244 (sk_td o_law13 21 rfl) rfl (nI_add i 1) (by omega) hL ?_
  refine sm_callL1i 1247 (s_X9_waited hq2) (sk_td o_law13 22 rfl) rfl lv_L_170 rfl rfl rfl sz_44 ⟨Nat.le_of_ble_eq_true rfl, Nat.le_of_ble_eq_true rfl, Nat.le_of_ble_eq_true rfl, Nat.le_of_ble_eq_true rfl⟩ (Nat.le_of_ble_eq_true rfl) ?_
  refine sg_ic_eq 1417 1250 (sk_td o_law13 23 rfl) (by decide) rfl (fun _ => ?_) (fun hc => absurd rfl hc)
  exact kk _ hR
set_option maxRecDepth 100000 in
set_option maxHeartbeats 4000000 in
theorem law_c38 {l : Launch} {nm : String} {L i : Nat} {xs : Nat → Int32} {d : sk_D} (hL : L ≤ 2560) (hi : i + 5 ≤ L) (hR : sk_R d) (kk : ∀ d2, sk_R d2 → sk_G l room_1 (m_law nm) (sk_ExL L xs) sk_ZL 171 56719 1417 [some (.inr (.inr (some (9999, 0)))), some (.inr (.inr (some (0, 0)))), some (.inr (.inr (some (44, 0)))), some (.inl (nI i))] [] (sk_mm d2)) : sk_G l room_1 (m_law nm) (sk_ExL L xs) sk_ZL 171 56719 1252 [some (.inr (.inr (some (9999, 0)))), some (.inr (.inr (some (0, 0)))), some (.inr (.inr (some (44, 0)))), some (.inl (nI i))] [] (sk_mm d) := by
  obtain ⟨a, hq1, hq2⟩ := pz_rides hR (xs (i + 1))
  refine sg_aload_n 1253 (sk_td o_law13 26 rfl) rfl rfl ?_
  refine sg_aload_n 1254 (sk_td o_law13 27 rfl) rfl rfl ?_
  refine sg_iload_n 1255 (sk_td o_law13 28 rfl) rfl rfl ?_
  refine sg_iconst (v := (1 : Int32)) 1256 (sk_td o_law13 29 rfl) rfl (by decide) ?_
  refine sg_iadd 1257 (sk_td o_law13 30 rfl) rfl ?_
  refine sg_sld (n := i + 1) 1258 (sk_td o_law13 31 rfl) rfl (nI_add i 1) (by omega) hL ?_
  refine sm_callL1i 1261 (s_X8_rides hq1) (sk_td o_law13 32 rfl) rfl lv_L_171 rfl rfl rfl sz_0 ⟨Nat.le_of_ble_eq_true rfl, Nat.le_of_ble_eq_true rfl, Nat.le_of_ble_eq_true rfl, Nat.le_of_ble_eq_true rfl⟩ (Nat.le_of_ble_eq_true rfl) ?_
  refine sg_aload_n 1262 (sk_td o_law13 33 rfl) rfl rfl ?_
  refine sg_aload_n 1263 (sk_td o_law13 34 rfl) rfl rfl ?_
  refine sg_iload_n 1264 (sk_td o_law13 35 rfl) rfl rfl ?_
  refine sg_iconst (v := (1 : Int32)) 1265 (sk_td o_law13 36 rfl) rfl (by decide) ?_
  refine sg_iadd 1266 (sk_td o_law13 37 rfl) rfl ?_
  refine sg_sld (n := i + 1) 1267 (sk_td o_law13 38 rfl) rfl (nI_add i 1) (by omega) hL ?_
  refine sm_callL1i 1270 (s_X9_rides hq2) (sk_td o_law13 39 rfl) rfl lv_L_174 rfl rfl rfl sz_44 ⟨Nat.le_of_ble_eq_true rfl, Nat.le_of_ble_eq_true rfl, Nat.le_of_ble_eq_true rfl, Nat.le_of_ble_eq_true rfl⟩ (Nat.le_of_ble_eq_true rfl) ?_
  refine sg_ic_eq 1417 1273 (sk_td o_law13 40 rfl) (by decide) rfl (fun _ => ?_) (fun hc => absurd rfl hc)
  exact kk _ hR
set_option maxRecDepth 100000 in
set_option maxHeartbeats 4000000 in
theorem law_c39 {l : Launch} {nm : String} {L i : Nat} {xs : Nat → Int32} {d : sk_D} (hL : L ≤ 2560) (hi : i + 5 ≤ L) (hR : sk_R d) (kk : ∀ d2, sk_R d2 → sk_G l room_1 (m_law nm) (sk_ExL L xs) sk_ZL 171 56719 1417 [some (.inr (.inr (some (9999, 0)))), some (.inr (.inr (some (0, 0)))), some (.inr (.inr (some (44, 0)))), some (.inl (nI i))] [] (sk_mm d2)) : sk_G l room_1 (m_law nm) (sk_ExL L xs) sk_ZL 171 56719 1275 [some (.inr (.inr (some (9999, 0)))), some (.inr (.inr (some (0, 0)))), some (.inr (.inr (some (44, 0)))), some (.inl (nI i))] [] (sk_mm d) := by
  obtain ⟨a, hq1, hq2⟩ := pz_longestQueue hR (xs (i + 1))
  refine sg_aload_n 1276 (sk_td o_law13 43 rfl) rfl rfl ?_
  refine sg_aload_n 1277 (sk_td o_law13 44 rfl) rfl rfl ?_
  refine sg_iload_n 1278 (sk_td o_law13 45 rfl) rfl rfl ?_
  refine sg_iconst (v := (1 : Int32)) 1279 (sk_td o_law13 46 rfl) rfl (by decide) ?_
  refine sg_iadd 1280 (sk_td o_law13 47 rfl) rfl ?_
  refine sg_sld (n := i + 1) 1281 (sk_td o_law13 48 rfl) rfl (nI_add i 1) (by omega) hL ?_
  refine sm_callL1i 1284 (s_X8_longestQueue hq1) (sk_td o_law13 49 rfl) rfl lv_L_175 rfl rfl rfl sz_0 ⟨Nat.le_of_ble_eq_true rfl, Nat.le_of_ble_eq_true rfl, Nat.le_of_ble_eq_true rfl, Nat.le_of_ble_eq_true rfl⟩ (Nat.le_of_ble_eq_true rfl) ?_
  refine sg_aload_n 1285 (sk_td o_law13 50 rfl) rfl rfl ?_
  refine sg_aload_n 1286 (sk_td o_law13 51 rfl) rfl rfl ?_
  refine sg_iload_n 1287 (sk_td o_law13 52 rfl) rfl rfl ?_
  refine sg_iconst (v := (1 : Int32)) 1288 (sk_td o_law13 53 rfl) rfl (by decide) ?_
  refine sg_iadd 1289 (sk_td o_law13 54 rfl) rfl ?_
  refine sg_sld (n := i + 1) 1290 (sk_td o_law13 55 rfl) rfl (nI_add i 1) (by omega) hL ?_
  refine sm_callL1i 1293 (s_X9_longestQueue hq2) (sk_td o_law13 56 rfl) rfl lv_L_178 rfl rfl rfl sz_44 ⟨Nat.le_of_ble_eq_true rfl, Nat.le_of_ble_eq_true rfl, Nat.le_of_ble_eq_true rfl, Nat.le_of_ble_eq_true rfl⟩ (Nat.le_of_ble_eq_true rfl) ?_
  refine sg_ic_eq 1417 1296 (sk_td o_law13 57 rfl) (by decide) rfl (fun _ => ?_) (fun hc => absurd rfl hc)
  exact kk _ hR
set_option maxRecDepth 100000 in
set_option maxHeartbeats 4000000 in
theorem law_c40 {l : Launch} {nm : String} {L i : Nat} {xs : Nat → Int32} {d : sk_D} (hL : L ≤ 2560) (hi : i + 5 ≤ L) (hR : sk_R d) (kk : ∀ d2, sk_R d2 → sk_G l room_1 (m_law nm) (sk_ExL L xs) sk_ZL 171 56719 1417 [some (.inr (.inr (some (9999, 0)))), some (.inr (.inr (some (0, 0)))), some (.inr (.inr (some (44, 0)))), some (.inl (nI i))] [] (sk_mm d2)) : sk_G l room_1 (m_law nm) (sk_ExL L xs) sk_ZL 171 56719 1298 [some (.inr (.inr (some (9999, 0)))), some (.inr (.inr (some (0, 0)))), some (.inr (.inr (some (44, 0)))), some (.inl (nI i))] [] (sk_mm d) := by
  obtain ⟨a, hq1, hq2⟩ := pz_carried hR (xs (i + 1))
  refine sg_aload_n 1299 (sk_td o_law14 0 rfl) rfl rfl ?_
  refine sg_aload_n 1300 (sk_td o_law14 1 rfl) rfl rfl ?_
  refine sg_iload_n 1301 (sk_td o_law14 2 rfl) rfl rfl ?_
  refine sg_iconst (v := (1 : Int32)) 1302 (sk_td o_law14 3 rfl) rfl (by decide) ?_
  refine sg_iadd 1303 (sk_td o_law14 4 rfl) rfl ?_
  refine sg_sld (n := i + 1) 1304 (sk_td o_law14 5 rfl) rfl (nI_add i 1) (by omega) hL ?_
  refine sm_callL1i 1307 (s_X8_carried hq1) (sk_td o_law14 6 rfl) rfl lv_L_179 rfl rfl rfl sz_0 ⟨Nat.le_of_ble_eq_true rfl, Nat.le_of_ble_eq_true rfl, Nat.le_of_ble_eq_true rfl, Nat.le_of_ble_eq_true rfl⟩ (Nat.le_of_ble_eq_true rfl) ?_
  refine sg_aload_n 1308 (sk_td o_law14 7 rfl) rfl rfl ?_
  refine sg_aload_n 1309 (sk_td o_law14 8 rfl) rfl rfl ?_
  refine sg_iload_n 1310 (sk_td o_law14 9 rfl) rfl rfl ?_
  refine sg_iconst (v := (1 : Int32)) 1311 (sk_td o_law14 10 rfl) rfl (by decide) ?_
  refine sg_iadd 1312 (sk_td o_law14 11 rfl) rfl ?_
  refine sg_sld (n := i + 1) 1313 (sk_td o_law14 12 rfl) rfl (nI_add i 1) (by omega) hL ?_
  refine sm_callL1i 1316 (s_X9_carried hq2) (sk_td o_law14 13 rfl) rfl lv_L_182 rfl rfl rfl sz_44 ⟨Nat.le_of_ble_eq_true rfl, Nat.le_of_ble_eq_true rfl, Nat.le_of_ble_eq_true rfl, Nat.le_of_ble_eq_true rfl⟩ (Nat.le_of_ble_eq_true rfl) ?_
  refine sg_ic_eq 1417 1319 (sk_td o_law14 14 rfl) (by decide) rfl (fun _ => ?_) (fun hc => absurd rfl hc)
  exact kk _ hR
set_option maxRecDepth 100000 in
set_option maxHeartbeats 4000000 in
theorem law_c41 {l : Launch} {nm : String} {L i : Nat} {xs : Nat → Int32} {d : sk_D} (hL : L ≤ 2560) (hi : i + 5 ≤ L) (hR : sk_R d) (kk : ∀ d2, sk_R d2 → sk_G l room_1 (m_law nm) (sk_ExL L xs) sk_ZL 171 56719 1417 [some (.inr (.inr (some (9999, 0)))), some (.inr (.inr (some (0, 0)))), some (.inr (.inr (some (44, 0)))), some (.inl (nI i))] [] (sk_mm d2)) : sk_G l room_1 (m_law nm) (sk_ExL L xs) sk_ZL 171 56719 1321 [some (.inr (.inr (some (9999, 0)))), some (.inr (.inr (some (0, 0)))), some (.inr (.inr (some (44, 0)))), some (.inl (nI i))] [] (sk_mm d) := by
  obtain ⟨a, d1, d2, hq1, hq2, hR2⟩ := pz_bestStart hR (xs (i + 1)) (xs (i + 2))
  refine sg_aload_n 1322 (sk_td o_law14 17 rfl) rfl rfl ?_
  refine sg_aload_n 1323 (sk_td o_law14 18 rfl) rfl rfl ?_
  refine sg_iload_n 1324 (sk_td o_law14 19 rfl) rfl rfl ?_
  refine sg_iconst (v := (1 : Int32)) 1325 (sk_td o_law14 20 rfl) rfl (by decide) ?_
  refine sg_iadd 1326 (sk_td o_law14 21 rfl) rfl ?_
  refine sg_sld (n := i + 1) 1327 (sk_td o_law14 22 rfl) rfl (nI_add i 1) (by omega) hL ?_
  refine sg_aload_n 1328 (sk_td o_law14 23 rfl) rfl rfl ?_
  refine sg_iload_n 1329 (sk_td o_law14 24 rfl) rfl rfl ?_
  refine sg_iconst (v := (2 : Int32)) 1330 (sk_td o_law14 25 rfl) rfl (by decide) ?_
  refine sg_iadd 1331 (sk_td o_law14 26 rfl) rfl ?_
  refine sg_sld (n := i + 2) 1332 (sk_td o_law14 27 rfl) rfl (nI_add i 2) (by omega) hL ?_
  refine sm_callL2i 1335 (s_X8_bestStart hq1) (sk_td o_law14 28 rfl) rfl lv_L_183 rfl rfl rfl sz_0 ⟨Nat.le_of_ble_eq_true rfl, Nat.le_of_ble_eq_true rfl, Nat.le_of_ble_eq_true rfl, Nat.le_of_ble_eq_true rfl⟩ (Nat.le_of_ble_eq_true rfl) ?_
  refine sg_aload_n 1336 (sk_td o_law14 29 rfl) rfl rfl ?_
  refine sg_aload_n 1337 (sk_td o_law14 30 rfl) rfl rfl ?_
  refine sg_iload_n 1338 (sk_td o_law14 31 rfl) rfl rfl ?_
  refine sg_iconst (v := (1 : Int32)) 1339 (sk_td o_law14 32 rfl) rfl (by decide) ?_
  refine sg_iadd 1340 (sk_td o_law14 33 rfl) rfl ?_
  refine sg_sld (n := i + 1) 1341 (sk_td o_law14 34 rfl) rfl (nI_add i 1) (by omega) hL ?_
  refine sg_aload_n 1342 (sk_td o_law14 35 rfl) rfl rfl ?_
  refine sg_iload_n 1343 (sk_td o_law14 36 rfl) rfl rfl ?_
  refine sg_iconst (v := (2 : Int32)) 1344 (sk_td o_law14 37 rfl) rfl (by decide) ?_
  refine sg_iadd 1345 (sk_td o_law14 38 rfl) rfl ?_
  refine sg_sld (n := i + 2) 1346 (sk_td o_law14 39 rfl) rfl (nI_add i 2) (by omega) hL ?_
  refine sm_callL2i 1349 (s_X9_bestStart hq2) (sk_td o_law14 40 rfl) rfl lv_L_186 rfl rfl rfl sz_44 ⟨Nat.le_of_ble_eq_true rfl, Nat.le_of_ble_eq_true rfl, Nat.le_of_ble_eq_true rfl, Nat.le_of_ble_eq_true rfl⟩ (Nat.le_of_ble_eq_true rfl) ?_
  refine sg_ic_eq 1417 1352 (sk_td o_law14 41 rfl) (by decide) rfl (fun _ => ?_) (fun hc => absurd rfl hc)
  exact kk _ hR2
set_option maxRecDepth 100000 in
set_option maxHeartbeats 4000000 in
theorem law_c42 {l : Launch} {nm : String} {L i : Nat} {xs : Nat → Int32} {d : sk_D} (hL : L ≤ 2560) (hi : i + 5 ≤ L) (hR : sk_R d) (kk : ∀ d2, sk_R d2 → sk_G l room_1 (m_law nm) (sk_ExL L xs) sk_ZL 171 56719 1417 [some (.inr (.inr (some (9999, 0)))), some (.inr (.inr (some (0, 0)))), some (.inr (.inr (some (44, 0)))), some (.inl (nI i))] [] (sk_mm d2)) : sk_G l room_1 (m_law nm) (sk_ExL L xs) sk_ZL 171 56719 1354 [some (.inr (.inr (some (9999, 0)))), some (.inr (.inr (some (0, 0)))), some (.inr (.inr (some (44, 0)))), some (.inl (nI i))] [] (sk_mm d) := by
  obtain ⟨a, d1, d2, hq1, hq2, hR2⟩ := pz_type hR (xs (i + 1))
  refine sg_aload_n 1355 (sk_td o_law14 44 rfl) rfl rfl ?_
  refine sg_aload_n 1356 (sk_td o_law14 45 rfl) rfl rfl ?_
  refine sg_iload_n 1357 (sk_td o_law14 46 rfl) rfl rfl ?_
  refine sg_iconst (v := (1 : Int32)) 1358 (sk_td o_law14 47 rfl) rfl (by decide) ?_
  refine sg_iadd 1359 (sk_td o_law14 48 rfl) rfl ?_
  refine sg_sld (n := i + 1) 1360 (sk_td o_law14 49 rfl) rfl (nI_add i 1) (by omega) hL ?_
  refine sm_callL1i 1363 (s_X8_type hq1) (sk_td o_law14 50 rfl) rfl lv_L_187 rfl rfl rfl sz_0 ⟨Nat.le_of_ble_eq_true rfl, Nat.le_of_ble_eq_true rfl, Nat.le_of_ble_eq_true rfl, Nat.le_of_ble_eq_true rfl⟩ (Nat.le_of_ble_eq_true rfl) ?_
  refine sg_aload_n 1364 (sk_td o_law14 51 rfl) rfl rfl ?_
  refine sg_aload_n 1365 (sk_td o_law14 52 rfl) rfl rfl ?_
  refine sg_iload_n 1366 (sk_td o_law14 53 rfl) rfl rfl ?_
  refine sg_iconst (v := (1 : Int32)) 1367 (sk_td o_law14 54 rfl) rfl (by decide) ?_
  refine sg_iadd 1368 (sk_td o_law14 55 rfl) rfl ?_
  refine sg_sld (n := i + 1) 1369 (sk_td o_law14 56 rfl) rfl (nI_add i 1) (by omega) hL ?_
  refine sm_callL1i 1372 (s_X9_type hq2) (sk_td o_law14 57 rfl) rfl lv_L_190 rfl rfl rfl sz_44 ⟨Nat.le_of_ble_eq_true rfl, Nat.le_of_ble_eq_true rfl, Nat.le_of_ble_eq_true rfl, Nat.le_of_ble_eq_true rfl⟩ (Nat.le_of_ble_eq_true rfl) ?_
  refine sg_ic_eq 1417 1375 (sk_td o_law14 58 rfl) (by decide) rfl (fun _ => ?_) (fun hc => absurd rfl hc)
  exact kk _ hR2
set_option maxRecDepth 100000 in
set_option maxHeartbeats 4000000 in
theorem law_c43 {l : Launch} {nm : String} {L i : Nat} {xs : Nat → Int32} {d : sk_D} (hL : L ≤ 2560) (hi : i + 5 ≤ L) (hR : sk_R d) (kk : ∀ d2, sk_R d2 → sk_G l room_1 (m_law nm) (sk_ExL L xs) sk_ZL 171 56719 1417 [some (.inr (.inr (some (9999, 0)))), some (.inr (.inr (some (0, 0)))), some (.inr (.inr (some (44, 0)))), some (.inl (nI i))] [] (sk_mm d2)) : sk_G l room_1 (m_law nm) (sk_ExL L xs) sk_ZL 171 56719 1377 [some (.inr (.inr (some (9999, 0)))), some (.inr (.inr (some (0, 0)))), some (.inr (.inr (some (44, 0)))), some (.inl (nI i))] [] (sk_mm d) := by
  obtain ⟨a, d1, d2, hq1, hq2, hR2⟩ := pz_clearText hR
  refine sg_aload_n 1378 (sk_td o_law15 1 rfl) rfl rfl ?_
  refine sm_callL0i 1381 (s_X8_clearText hq1) (sk_td o_law15 2 rfl) rfl lv_L_191 rfl rfl rfl sz_0 ⟨Nat.le_of_ble_eq_true rfl, Nat.le_of_ble_eq_true rfl, Nat.le_of_ble_eq_true rfl, Nat.le_of_ble_eq_true rfl⟩ (Nat.le_of_ble_eq_true rfl) ?_
  refine sg_aload_n 1382 (sk_td o_law15 3 rfl) rfl rfl ?_
  refine sm_callL0i 1385 (s_X9_clearText hq2) (sk_td o_law15 4 rfl) rfl lv_L_194 rfl rfl rfl sz_44 ⟨Nat.le_of_ble_eq_true rfl, Nat.le_of_ble_eq_true rfl, Nat.le_of_ble_eq_true rfl, Nat.le_of_ble_eq_true rfl⟩ (Nat.le_of_ble_eq_true rfl) ?_
  refine sg_ic_eq 1417 1388 (sk_td o_law15 5 rfl) (by decide) rfl (fun _ => ?_) (fun hc => absurd rfl hc)
  exact kk _ hR2
set_option maxRecDepth 100000 in
set_option maxHeartbeats 4000000 in
theorem law_c44 {l : Launch} {nm : String} {L i : Nat} {xs : Nat → Int32} {d : sk_D} (hL : L ≤ 2560) (hi : i + 5 ≤ L) (hR : sk_R d) (kk : ∀ d2, sk_R d2 → sk_G l room_1 (m_law nm) (sk_ExL L xs) sk_ZL 171 56719 1417 [some (.inr (.inr (some (9999, 0)))), some (.inr (.inr (some (0, 0)))), some (.inr (.inr (some (44, 0)))), some (.inl (nI i))] [] (sk_mm d2)) : sk_G l room_1 (m_law nm) (sk_ExL L xs) sk_ZL 171 56719 1390 [some (.inr (.inr (some (9999, 0)))), some (.inr (.inr (some (0, 0)))), some (.inr (.inr (some (44, 0)))), some (.inl (nI i))] [] (sk_mm d) := by
  obtain ⟨a, d1, d2, hq1, hq2, hR2⟩ := pz_load hR
  refine sg_aload_n 1391 (sk_td o_law15 8 rfl) rfl rfl ?_
  refine sm_callL0i 1394 (s_X8_load hq1) (sk_td o_law15 9 rfl) rfl lv_L_195 rfl rfl rfl sz_0 ⟨Nat.le_of_ble_eq_true rfl, Nat.le_of_ble_eq_true rfl, Nat.le_of_ble_eq_true rfl, Nat.le_of_ble_eq_true rfl⟩ (Nat.le_of_ble_eq_true rfl) ?_
  refine sg_aload_n 1395 (sk_td o_law15 10 rfl) rfl rfl ?_
  refine sm_callL0i 1398 (s_X9_load hq2) (sk_td o_law15 11 rfl) rfl lv_L_198 rfl rfl rfl sz_44 ⟨Nat.le_of_ble_eq_true rfl, Nat.le_of_ble_eq_true rfl, Nat.le_of_ble_eq_true rfl, Nat.le_of_ble_eq_true rfl⟩ (Nat.le_of_ble_eq_true rfl) ?_
  refine sg_ic_eq 1417 1401 (sk_td o_law15 12 rfl) (by decide) rfl (fun _ => ?_) (fun hc => absurd rfl hc)
  exact kk _ hR2
set_option maxRecDepth 100000 in
set_option maxHeartbeats 4000000 in
theorem law_c45 {l : Launch} {nm : String} {L i : Nat} {xs : Nat → Int32} {d : sk_D} (hL : L ≤ 2560) (hi : i + 5 ≤ L) (hR : sk_R d) (kk : ∀ d2, sk_R d2 → sk_G l room_1 (m_law nm) (sk_ExL L xs) sk_ZL 171 56719 1417 [some (.inr (.inr (some (9999, 0)))), some (.inr (.inr (some (0, 0)))), some (.inr (.inr (some (44, 0)))), some (.inl (nI i))] [] (sk_mm d2)) : sk_G l room_1 (m_law nm) (sk_ExL L xs) sk_ZL 171 56719 1403 [some (.inr (.inr (some (9999, 0)))), some (.inr (.inr (some (0, 0)))), some (.inr (.inr (some (44, 0)))), some (.inl (nI i))] [] (sk_mm d) := by
  obtain ⟨a, hq1, hq2⟩ := pz_digest hR
  refine sg_aload_n 1404 (sk_td o_law15 15 rfl) rfl rfl ?_
  refine sm_callL0l 1407 (s_X8_digest hq1) (sk_td o_law15 16 rfl) rfl lv_L_199 rfl rfl rfl sz_0 ⟨Nat.le_of_ble_eq_true rfl, Nat.le_of_ble_eq_true rfl, Nat.le_of_ble_eq_true rfl, Nat.le_of_ble_eq_true rfl⟩ (Nat.le_of_ble_eq_true rfl) ?_
  refine sg_aload_n 1408 (sk_td o_law15 17 rfl) rfl rfl ?_
  refine sm_callL0l 1411 (s_X9_digest hq2) (sk_td o_law15 18 rfl) rfl lv_L_203 rfl rfl rfl sz_44 ⟨Nat.le_of_ble_eq_true rfl, Nat.le_of_ble_eq_true rfl, Nat.le_of_ble_eq_true rfl, Nat.le_of_ble_eq_true rfl⟩ (Nat.le_of_ble_eq_true rfl) ?_
  refine sg_lcmp 1412 (sk_td o_law15 19 rfl) rfl ?_
  refine sg_if_eq 1417 1415 (sk_td o_law15 20 rfl) (by decide) rfl (fun _ => ?_) (fun hc => absurd (sk_lcm a) hc)
  exact kk _ hR
theorem law_len {L i : Nat} (hL : L ≤ 2560) (hi : i ≤ 2560) : (¬ nI L - 5 < nI i ↔ i + 5 ≤ L) := by
  have e : (nI L - 5).toInt = (L : Int) - 5 := by
    rw [Int32.toInt_sub, nI_toInt (by omega)]
    have : (5 : Int32).toInt = 5 := by decide
    rw [this]
    exact Int.bmod_eq_of_le (by omega) (by omega)
  rw [Int32.lt_iff_toInt_lt, e, nI_toInt (by omega)]
  omega
set_option maxRecDepth 100000 in
set_option maxHeartbeats 4000000 in
theorem law_disp {l : Launch} {nm : String} {L i : Nat} {xs : Nat → Int32} {d : sk_D} (hL : L ≤ 2560) (hi : i + 5 ≤ L) (hR : sk_R d) (v : Int32) (kk : ∀ d2, sk_R d2 → sk_G l room_1 (m_law nm) (sk_ExL L xs) sk_ZL 171 56719 1417 [some (.inr (.inr (some (9999, 0)))), some (.inr (.inr (some (0, 0)))), some (.inr (.inr (some (44, 0)))), some (.inl (nI i))] [] (sk_mm d2)) : sk_G l room_1 (m_law nm) (sk_ExL L xs) sk_ZL 171 56719 32 [some (.inr (.inr (some (9999, 0)))), some (.inr (.inr (some (0, 0)))), some (.inr (.inr (some (44, 0)))), some (.inl (nI i))] [.inl v] (sk_mm d) := by
  by_cases hv : v.toInt < 0 ∨ 45 < v.toInt
  · exact sg_tblO 1417 (sk_td o_law0 21 rfl) hv (by decide) (kk d hR)
  · have h1 : ¬ v.toInt < 0 := fun q => hv (.inl q)
    have h2 : ¬ 45 < v.toInt := fun q => hv (.inr q)
    obtain ⟨n, hn⟩ : ∃ n : Nat, v.toInt = n := ⟨v.toInt.toNat, by omega⟩
    have hn46 : n < 46 := by omega
    have key : ∀ (off : Int) (tgt : Nat), (#[200, 243, 266, 279, 302, 325, 348, 371, 420, 443, 486, 519, 562, 585, 598, 641, 664, 677, 700, 723, 746, 759, 772, 785, 828, 851, 904, 927, 940, 973, 986, 1009, 1032, 1075, 1118, 1141, 1174, 1197, 1220, 1243, 1266, 1289, 1322, 1345, 1358, 1371] : Array Int)[n]? = some off → (32 : Int) + off = (tgt : Int) → sk_G l room_1 (m_law nm) (sk_ExL L xs) sk_ZL 171 56719 tgt [some (.inr (.inr (some (9999, 0)))), some (.inr (.inr (some (0, 0)))), some (.inr (.inr (some (44, 0)))), some (.inl (nI i))] [] (sk_mm d) → sk_G l room_1 (m_law nm) (sk_ExL L xs) sk_ZL 171 56719 32 [some (.inr (.inr (some (9999, 0)))), some (.inr (.inr (some (0, 0)))), some (.inr (.inr (some (44, 0)))), some (.inl (nI i))] [.inl v] (sk_mm d) := fun off tgt ho ht k2 =>
      sg_tblI off tgt (sk_td o_law0 21 rfl) h1 h2 (by rw [hn, Int.sub_zero, Int.toNat_natCast]; exact ho) ht k2
    match n, hn46 with
    | 0, _ => exact key 200 232 rfl (by decide) (law_c0 hL hi hR kk)
    | 1, _ => exact key 243 275 rfl (by decide) (law_c1 hL hi hR kk)
    | 2, _ => exact key 266 298 rfl (by decide) (law_c2 hL hi hR kk)
    | 3, _ => exact key 279 311 rfl (by decide) (law_c3 hL hi hR kk)
    | 4, _ => exact key 302 334 rfl (by decide) (law_c4 hL hi hR kk)
    | 5, _ => exact key 325 357 rfl (by decide) (law_c5 hL hi hR kk)
    | 6, _ => exact key 348 380 rfl (by decide) (law_c6 hL hi hR kk)
    | 7, _ => exact key 371 403 rfl (by decide) (law_c7 hL hi hR kk)
    | 8, _ => exact key 420 452 rfl (by decide) (law_c8 hL hi hR kk)
    | 9, _ => exact key 443 475 rfl (by decide) (law_c9 hL hi hR kk)
    | 10, _ => exact key 486 518 rfl (by decide) (law_c10 hL hi hR kk)
    | 11, _ => exact key 519 551 rfl (by decide) (law_c11 hL hi hR kk)
    | 12, _ => exact key 562 594 rfl (by decide) (law_c12 hL hi hR kk)
    | 13, _ => exact key 585 617 rfl (by decide) (law_c13 hL hi hR kk)
    | 14, _ => exact key 598 630 rfl (by decide) (law_c14 hL hi hR kk)
    | 15, _ => exact key 641 673 rfl (by decide) (law_c15 hL hi hR kk)
    | 16, _ => exact key 664 696 rfl (by decide) (law_c16 hL hi hR kk)
    | 17, _ => exact key 677 709 rfl (by decide) (law_c17 hL hi hR kk)
    | 18, _ => exact key 700 732 rfl (by decide) (law_c18 hL hi hR kk)
    | 19, _ => exact key 723 755 rfl (by decide) (law_c19 hL hi hR kk)
    | 20, _ => exact key 746 778 rfl (by decide) (law_c20 hL hi hR kk)
    | 21, _ => exact key 759 791 rfl (by decide) (law_c21 hL hi hR kk)
    | 22, _ => exact key 772 804 rfl (by decide) (law_c22 hL hi hR kk)
    | 23, _ => exact key 785 817 rfl (by decide) (law_c23 hL hi hR kk)
    | 24, _ => exact key 828 860 rfl (by decide) (law_c24 hL hi hR kk)
    | 25, _ => exact key 851 883 rfl (by decide) (law_c25 hL hi hR kk)
    | 26, _ => exact key 904 936 rfl (by decide) (law_c26 hL hi hR kk)
    | 27, _ => exact key 927 959 rfl (by decide) (law_c27 hL hi hR kk)
    | 28, _ => exact key 940 972 rfl (by decide) (law_c28 hL hi hR kk)
    | 29, _ => exact key 973 1005 rfl (by decide) (law_c29 hL hi hR kk)
    | 30, _ => exact key 986 1018 rfl (by decide) (law_c30 hL hi hR kk)
    | 31, _ => exact key 1009 1041 rfl (by decide) (law_c31 hL hi hR kk)
    | 32, _ => exact key 1032 1064 rfl (by decide) (law_c32 hL hi hR kk)
    | 33, _ => exact key 1075 1107 rfl (by decide) (law_c33 hL hi hR kk)
    | 34, _ => exact key 1118 1150 rfl (by decide) (law_c34 hL hi hR kk)
    | 35, _ => exact key 1141 1173 rfl (by decide) (law_c35 hL hi hR kk)
    | 36, _ => exact key 1174 1206 rfl (by decide) (law_c36 hL hi hR kk)
    | 37, _ => exact key 1197 1229 rfl (by decide) (law_c37 hL hi hR kk)
    | 38, _ => exact key 1220 1252 rfl (by decide) (law_c38 hL hi hR kk)
    | 39, _ => exact key 1243 1275 rfl (by decide) (law_c39 hL hi hR kk)
    | 40, _ => exact key 1266 1298 rfl (by decide) (law_c40 hL hi hR kk)
    | 41, _ => exact key 1289 1321 rfl (by decide) (law_c41 hL hi hR kk)
    | 42, _ => exact key 1322 1354 rfl (by decide) (law_c42 hL hi hR kk)
    | 43, _ => exact key 1345 1377 rfl (by decide) (law_c43 hL hi hR kk)
    | 44, _ => exact key 1358 1390 rfl (by decide) (law_c44 hL hi hR kk)
    | 45, _ => exact key 1371 1403 rfl (by decide) (law_c45 hL hi hR kk)
    | n + 46, h => exact absurd h (by omega)
set_option maxRecDepth 100000 in
set_option maxHeartbeats 4000000 in
theorem law_end {l : Launch} {nm : String} {L : Nat} {xs : Nat → Int32} {ls : List (Option sk_AV)} {d : sk_D} : sk_G l room_1 (m_law nm) (sk_ExL L xs) sk_ZL 171 56719 1424 ls [.inl 1] (sk_mm d) := by
  intro p e s0 m args below meth c H locs bb D kc la hH hE hR hS hB hLR
  obtain ⟨hE1, hE2, hE3, hE4⟩ := hE
  subst hE1
  refine va_forget (fun q hq => by rw [← hE4]; exact hS.2.2 q hq) ?_
  refine W.widen (k := 600000) (n := 7302250) (Nat.le_of_ble_eq_true rfl) (Nat.le_of_ble_eq_true rfl) ?_
  exact lw_ret hH.1 hH.2.1 hH.2.2.1 hH.2.2.2.2.2.2.1 (sk_td o_law15 26 rfl)
set_option maxRecDepth 100000 in
set_option maxHeartbeats 4000000 in
theorem law_loop {l : Launch} {nm : String} {L : Nat} {xs : Nat → Int32} (hL : L ≤ 2560) : ∀ (m i : Nat) (d : sk_D), L ≤ i + 5 * m → i ≤ L → sk_R d → sk_G l room_1 (m_law nm) (sk_ExL L xs) sk_ZL 171 56719 18 [some (.inr (.inr (some (9999, 0)))), some (.inr (.inr (some (0, 0)))), some (.inr (.inr (some (44, 0)))), some (.inl (nI i))] [] (sk_mm d) := by
  intro m
  induction m with
  | zero =>
    intro i d h1 h2 hR
    refine sg_iload_n 19 (sk_td o_law0 10 rfl) rfl rfl ?_
    refine sg_aload_n 20 (sk_td o_law0 11 rfl) rfl rfl ?_
    refine sg_slen 21 (sk_td o_law0 12 rfl) rfl ?_
    refine sg_iconst (v := (5 : Int32)) 22 (sk_td o_law0 13 rfl) rfl (by decide) ?_
    refine sg_isub 23 (sk_td o_law0 14 rfl) rfl ?_
    refine sg_ic_gt 1423 26 (sk_td o_law0 15 rfl) (by decide) rfl (fun _ => ?_) (fun hc => absurd ((law_len hL (by omega)).mp hc) (by omega))
    refine sg_iconst (v := (1 : Int32)) 1424 (sk_td o_law15 25 rfl) rfl (by decide) ?_
    exact law_end
  | succ m ih =>
    intro i d h1 h2 hR
    refine sg_iload_n 19 (sk_td o_law0 10 rfl) rfl rfl ?_
    refine sg_aload_n 20 (sk_td o_law0 11 rfl) rfl rfl ?_
    refine sg_slen 21 (sk_td o_law0 12 rfl) rfl ?_
    refine sg_iconst (v := (5 : Int32)) 22 (sk_td o_law0 13 rfl) rfl (by decide) ?_
    refine sg_isub 23 (sk_td o_law0 14 rfl) rfl ?_
    refine sg_ic_gt 1423 26 (sk_td o_law0 15 rfl) (by decide) rfl (fun _ => ?_) (fun hc => ?_)
    · refine sg_iconst (v := (1 : Int32)) 1424 (sk_td o_law15 25 rfl) rfl (by decide) ?_
      exact law_end
    have hi := (law_len hL (by omega)).mp hc
    refine sg_aload_n 27 (sk_td o_law0 16 rfl) rfl rfl ?_
    refine sg_iload_n 28 (sk_td o_law0 17 rfl) rfl rfl ?_
    refine sg_sld (n := i) 29 (sk_td o_law0 18 rfl) rfl rfl (by omega) hL ?_
    refine sg_bipush (v := (63 : Int32)) 31 (sk_td o_law0 19 rfl) rfl (by decide) ?_
    refine sg_iand 32 (sk_td o_law0 20 rfl) rfl ?_
    refine law_disp hL hi hR _ (fun d2 hR2 => ?_)
    refine sg_iinc (nI (i + 5)) 1420 [some (.inr (.inr (some (9999, 0)))), some (.inr (.inr (some (0, 0)))), some (.inr (.inr (some (44, 0)))), some (.inl (nI (i + 5)))] (sk_td o_law15 23 rfl) rfl rfl (nI_add i 5) rfl (Nat.le_of_ble_eq_true rfl) rfl ?_
    refine sg_goto 18 (sk_td o_law15 24 rfl) (by decide) ?_
    exact ih (i + 5) d2 (by omega) hi hR2

