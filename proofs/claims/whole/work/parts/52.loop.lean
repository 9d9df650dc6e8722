/-! THE LAW'S LOOP (printed by law.py) -/
theorem vin_o {i v : Int32} {p c n : Nat} (hi : i.toInt = p) (hv : v.toInt = c) (h : p + c < n) (hn : n ≤ 3072) : vp_in (i + v) n := by
  have e : (i + v).toInt = (p : Int) + c := by rw [fb_addI (by omega) (by omega)]; omega
  rintro (h9 | h9)
  · rw [i_lt] at h9
    have : (0 : Int32).toInt = 0 := by decide
    omega
  · have e2 : (i + v).toNatClampNeg = (i + v).toInt.toNat := rfl
    omega
section ZLO
variable {k : zK} {g : zG} {cs sl n : Nat} {xs : Nat → Int32}
theorem law_body (X : zXl k g cs sl n xs) {i : Int32} {p : Nat} (hi : i.toInt = p) (hp : p + 6 ≤ n) {I : zI} {L : zL} (hR : R I L) (nx : ∀ I2 L2, R I2 L2 → AG k g (PW g I2 L2) cs sl 4 1735 (lsL i) []) : AG k g (PW g I L) cs sl 4 27 (lsL i) [] := by
  have hn : n ≤ 3072 := X.2.2.2.2.1
  have h0 : vp_in i n := by
    have := vin_o (v := 0) (c := 0) hi (by decide) (by omega) hn
    rwa [show i + 0 = i from Int32.add_zero i] at this
  have h1 : vp_in (i + 1) n := vin_o (c := 1) hi (by decide) (by omega) hn
  have h2 : vp_in (i + 2) n := vin_o (c := 2) hi (by decide) (by omega) hn
  have h3 : vp_in (i + 3) n := vin_o (c := 3) hi (by decide) (by omega) hn
  have h4 : vp_in (i + 4) n := vin_o (c := 4) hi (by decide) (by omega) hn
  have h5 : vp_in (i + 5) n := vin_o (c := 5) hi (by decide) (by omega) hn
  refine ag_aload_n X.1 3 dL_law_27 rfl ?_
  refine ag_iload_n X.1 0 dL_law_28 rfl ?_
  refine al_sld X h0 dL_law_29 ?_
  refine ag_bipush (v := 63) X.1 dL_law_30 (by decide) ?_
  refine ag_iand X.1 dL_law_32 ?_
  obtain ⟨q, hq, e⟩ := and63 (xs i.toNatClampNeg)
  by_cases c0 : q = 0
  · exact ag_tableIn X.1 0 240 dL_law_33 (by rw [e, c0]; rfl) (by decide) (show _ = some (207 : Int) from rfl) rfl (lc_row X h1 h2 h3 h4 h5 hR nx)
  by_cases c1 : q = 1
  · exact ag_tableIn X.1 1 283 dL_law_33 (by rw [e, c1]; rfl) (by decide) (show _ = some (250 : Int) from rfl) rfl (lc_set X h1 h2 h3 h4 h5 hR nx)
  by_cases c2 : q = 2
  · exact ag_tableIn X.1 2 356 dL_law_33 (by rw [e, c2]; rfl) (by decide) (show _ = some (323 : Int) from rfl) rfl (lc_copy X h1 h2 h3 h4 h5 hR nx)
  by_cases c3 : q = 3
  · exact ag_tableIn X.1 3 419 dL_law_33 (by rw [e, c3]; rfl) (by decide) (show _ = some (386 : Int) from rfl) rfl (lc_element X h1 h2 h3 h4 h5 hR nx)
  by_cases c4 : q = 4
  · exact ag_tableIn X.1 4 453 dL_law_33 (by rw [e, c4]; rfl) (by decide) (show _ = some (420 : Int) from rfl) rfl (lc_show X h1 h2 h3 h4 h5 hR nx)
  by_cases c5 : q = 5
  · exact ag_tableIn X.1 5 486 dL_law_33 (by rw [e, c5]; rfl) (by decide) (show _ = some (453 : Int) from rfl) rfl (lc_holds X h1 h2 h3 h4 h5 hR nx)
  by_cases c6 : q = 6
  · exact ag_tableIn X.1 6 509 dL_law_33 (by rw [e, c6]; rfl) (by decide) (show _ = some (476 : Int) from rfl) rfl (lc_says X h1 h2 h3 h4 h5 hR nx)
  by_cases c7 : q = 7
  · exact ag_tableIn X.1 7 542 dL_law_33 (by rw [e, c7]; rfl) (by decide) (show _ = some (509 : Int) from rfl) rfl (lc_form X h1 h2 h3 h4 h5 hR nx)
  by_cases c8 : q = 8
  · exact ag_tableIn X.1 8 565 dL_law_33 (by rw [e, c8]; rfl) (by decide) (show _ = some (532 : Int) from rfl) rfl (lc_formOf X h1 h2 h3 h4 h5 hR nx)
  by_cases c9 : q = 9
  · exact ag_tableIn X.1 9 588 dL_law_33 (by rw [e, c9]; rfl) (by decide) (show _ = some (555 : Int) from rfl) rfl (lc_pane X h1 h2 h3 h4 h5 hR nx)
  by_cases c10 : q = 10
  · exact ag_tableIn X.1 10 631 dL_law_33 (by rw [e, c10]; rfl) (by decide) (show _ = some (598 : Int) from rfl) rfl (lc_paneOf X h1 h2 h3 h4 h5 hR nx)
  by_cases c11 : q = 11
  · exact ag_tableIn X.1 11 664 dL_law_33 (by rw [e, c11]; rfl) (by decide) (show _ = some (631 : Int) from rfl) rfl (lc_hang X h1 h2 h3 h4 h5 hR nx)
  by_cases c12 : q = 12
  · exact ag_tableIn X.1 12 697 dL_law_33 (by rw [e, c12]; rfl) (by decide) (show _ = some (664 : Int) from rfl) rfl (lc_hangs X h1 h2 h3 h4 h5 hR nx)
  by_cases c13 : q = 13
  · exact ag_tableIn X.1 13 720 dL_law_33 (by rw [e, c13]; rfl) (by decide) (show _ = some (687 : Int) from rfl) rfl (lc_ask X h1 h2 h3 h4 h5 hR nx)
  by_cases c14 : q = 14
  · exact ag_tableIn X.1 14 753 dL_law_33 (by rw [e, c14]; rfl) (by decide) (show _ = some (720 : Int) from rfl) rfl (lc_room X h1 h2 h3 h4 h5 hR nx)
  by_cases c15 : q = 15
  · exact ag_tableIn X.1 15 786 dL_law_33 (by rw [e, c15]; rfl) (by decide) (show _ = some (753 : Int) from rfl) rfl (lc_press X h1 h2 h3 h4 h5 hR nx)
  by_cases c16 : q = 16
  · exact ag_tableIn X.1 16 809 dL_law_33 (by rw [e, c16]; rfl) (by decide) (show _ = some (776 : Int) from rfl) rfl (lc_fault X h1 h2 h3 h4 h5 hR nx)
  by_cases c17 : q = 17
  · exact ag_tableIn X.1 17 822 dL_law_33 (by rw [e, c17]; rfl) (by decide) (show _ = some (789 : Int) from rfl) rfl (lc_melt X h1 h2 h3 h4 h5 hR nx)
  by_cases c18 : q = 18
  · exact ag_tableIn X.1 18 855 dL_law_33 (by rw [e, c18]; rfl) (by decide) (show _ = some (822 : Int) from rfl) rfl (lc_ice X h1 h2 h3 h4 h5 hR nx)
  by_cases c19 : q = 19
  · exact ag_tableIn X.1 19 908 dL_law_33 (by rw [e, c19]; rfl) (by decide) (show _ = some (875 : Int) from rfl) rfl (lc_shape X h1 h2 h3 h4 h5 hR nx)
  by_cases c20 : q = 20
  · exact ag_tableIn X.1 20 951 dL_law_33 (by rw [e, c20]; rfl) (by decide) (show _ = some (918 : Int) from rfl) rfl (lc_reads X h1 h2 h3 h4 h5 hR nx)
  by_cases c21 : q = 21
  · exact ag_tableIn X.1 21 974 dL_law_33 (by rw [e, c21]; rfl) (by decide) (show _ = some (941 : Int) from rfl) rfl (lc_readsAs X h1 h2 h3 h4 h5 hR nx)
  by_cases c22 : q = 22
  · exact ag_tableIn X.1 22 1017 dL_law_33 (by rw [e, c22]; rfl) (by decide) (show _ = some (984 : Int) from rfl) rfl (lc_lasts X h1 h2 h3 h4 h5 hR nx)
  by_cases c23 : q = 23
  · exact ag_tableIn X.1 23 1050 dL_law_33 (by rw [e, c23]; rfl) (by decide) (show _ = some (1017 : Int) from rfl) rfl (lc_page X h1 h2 h3 h4 h5 hR nx)
  by_cases c24 : q = 24
  · exact ag_tableIn X.1 24 1073 dL_law_33 (by rw [e, c24]; rfl) (by decide) (show _ = some (1040 : Int) from rfl) rfl (lc_prints X h1 h2 h3 h4 h5 hR nx)
  by_cases c25 : q = 25
  · exact ag_tableIn X.1 25 1126 dL_law_33 (by rw [e, c25]; rfl) (by decide) (show _ = some (1093 : Int) from rfl) rfl (lc_becomes X h1 h2 h3 h4 h5 hR nx)
  by_cases c26 : q = 26
  · exact ag_tableIn X.1 26 1149 dL_law_33 (by rw [e, c26]; rfl) (by decide) (show _ = some (1116 : Int) from rfl) rfl (lc_turns X h1 h2 h3 h4 h5 hR nx)
  by_cases c27 : q = 27
  · exact ag_tableIn X.1 27 1192 dL_law_33 (by rw [e, c27]; rfl) (by decide) (show _ = some (1159 : Int) from rfl) rfl (lc_could X h1 h2 h3 h4 h5 hR nx)
  by_cases c28 : q = 28
  · exact ag_tableIn X.1 28 1235 dL_law_33 (by rw [e, c28]; rfl) (by decide) (show _ = some (1202 : Int) from rfl) rfl (lc_unlike X h1 h2 h3 h4 h5 hR nx)
  by_cases c29 : q = 29
  · exact ag_tableIn X.1 29 1268 dL_law_33 (by rw [e, c29]; rfl) (by decide) (show _ = some (1235 : Int) from rfl) rfl (lc_closest X h1 h2 h3 h4 h5 hR nx)
  by_cases c30 : q = 30
  · exact ag_tableIn X.1 30 1281 dL_law_33 (by rw [e, c30]; rfl) (by decide) (show _ = some (1248 : Int) from rfl) rfl (lc_mend X h1 h2 h3 h4 h5 hR nx)
  by_cases c31 : q = 31
  · exact ag_tableIn X.1 31 1304 dL_law_33 (by rw [e, c31]; rfl) (by decide) (show _ = some (1271 : Int) from rfl) rfl (lc_stove X h1 h2 h3 h4 h5 hR nx)
  by_cases c32 : q = 32
  · exact ag_tableIn X.1 32 1347 dL_law_33 (by rw [e, c32]; rfl) (by decide) (show _ = some (1314 : Int) from rfl) rfl (lc_chill X h1 h2 h3 h4 h5 hR nx)
  by_cases c33 : q = 33
  · exact ag_tableIn X.1 33 1390 dL_law_33 (by rw [e, c33]; rfl) (by decide) (show _ = some (1357 : Int) from rfl) rfl (lc_mistaken X h1 h2 h3 h4 h5 hR nx)
  by_cases c34 : q = 34
  · exact ag_tableIn X.1 34 1403 dL_law_33 (by rw [e, c34]; rfl) (by decide) (show _ = some (1370 : Int) from rfl) rfl (lc_let X h1 h2 h3 h4 h5 hR nx)
  by_cases c35 : q = 35
  · exact ag_tableIn X.1 35 1416 dL_law_33 (by rw [e, c35]; rfl) (by decide) (show _ = some (1383 : Int) from rfl) rfl (lc_night X h1 h2 h3 h4 h5 hR nx)
  by_cases c36 : q = 36
  · exact ag_tableIn X.1 36 1429 dL_law_33 (by rw [e, c36]; rfl) (by decide) (show _ = some (1396 : Int) from rfl) rfl (lc_hours X h1 h2 h3 h4 h5 hR nx)
  by_cases c37 : q = 37
  · exact ag_tableIn X.1 37 1452 dL_law_33 (by rw [e, c37]; rfl) (by decide) (show _ = some (1419 : Int) from rfl) rfl (lc_truth X h1 h2 h3 h4 h5 hR nx)
  by_cases c38 : q = 38
  · exact ag_tableIn X.1 38 1485 dL_law_33 (by rw [e, c38]; rfl) (by decide) (show _ = some (1452 : Int) from rfl) rfl (lc_readOf X h1 h2 h3 h4 h5 hR nx)
  by_cases c39 : q = 39
  · exact ag_tableIn X.1 39 1508 dL_law_33 (by rw [e, c39]; rfl) (by decide) (show _ = some (1475 : Int) from rfl) rfl (lc_breath X h1 h2 h3 h4 h5 hR nx)
  by_cases c40 : q = 40
  · exact ag_tableIn X.1 40 1541 dL_law_33 (by rw [e, c40]; rfl) (by decide) (show _ = some (1508 : Int) from rfl) rfl (lc_scratch X h1 h2 h3 h4 h5 hR nx)
  by_cases c41 : q = 41
  · exact ag_tableIn X.1 41 1574 dL_law_33 (by rw [e, c41]; rfl) (by decide) (show _ = some (1541 : Int) from rfl) rfl (lc_winter X h1 h2 h3 h4 h5 hR nx)
  by_cases c42 : q = 42
  · exact ag_tableIn X.1 42 1597 dL_law_33 (by rw [e, c42]; rfl) (by decide) (show _ = some (1564 : Int) from rfl) rfl (lc_seed X h1 h2 h3 h4 h5 hR nx)
  by_cases c43 : q = 43
  · exact ag_tableIn X.1 43 1620 dL_law_33 (by rw [e, c43]; rfl) (by decide) (show _ = some (1587 : Int) from rfl) rfl (lc_act X h1 h2 h3 h4 h5 hR nx)
  by_cases c44 : q = 44
  · exact ag_tableIn X.1 44 1663 dL_law_33 (by rw [e, c44]; rfl) (by decide) (show _ = some (1630 : Int) from rfl) rfl (lc_trace X h1 h2 h3 h4 h5 hR nx)
  by_cases c45 : q = 45
  · exact ag_tableIn X.1 45 1686 dL_law_33 (by rw [e, c45]; rfl) (by decide) (show _ = some (1653 : Int) from rfl) rfl (lc_image X h1 h2 h3 h4 h5 hR nx)
  by_cases c46 : q = 46
  · exact ag_tableIn X.1 46 1699 dL_law_33 (by rw [e, c46]; rfl) (by decide) (show _ = some (1666 : Int) from rfl) rfl (lc_restore X h1 h2 h3 h4 h5 hR nx)
  by_cases c47 : q = 47
  · exact ag_tableIn X.1 47 1712 dL_law_33 (by rw [e, c47]; rfl) (by decide) (show _ = some (1679 : Int) from rfl) rfl (lc_status X h1 h2 h3 h4 h5 hR nx)
  exact ag_tableOut X.1 1735 dL_law_33 (by rw [e]; exact Or.inr (by omega)) rfl (nx I L hR)
theorem law_head (X : zXl k g cs sl n xs) {i : Int32} {p : Nat} (hi : i.toInt = p) {I : zI} {L : zL} (h : p + 6 ≤ n → AG k g (PW g I L) cs sl 4 27 (lsL i) []) : AG k g (PW g I L) cs sl 4 18 (lsL i) [] := by
  have hn : n ≤ 3072 := X.2.2.2.2.1
  refine ag_iload_n X.1 0 dL_law_18 rfl ?_
  refine ag_aload_n X.1 3 dL_law_19 rfl ?_
  refine al_slen X dL_law_20 ?_
  refine ag_bipush (v := 6) X.1 dL_law_21 (by decide) ?_
  refine ag_isub X.1 dL_law_23 ?_
  have e : (Int32.ofNat n - 6).toInt = (n : Int) - 6 := n_sub (a := n) (b := 6) (by omega) (by decide)
  refine ag_icmp_gt X.1 1741 dL_law_24 rfl (fun _ => ?_) (fun hc => ?_)
  · refine ag_iconst (v := 1) X.1 dL_law_1741 (by decide) ?_
    exact fun H locs la hP hS hl => X.2.2.2.2.2.2 H locs la hS
  · rw [i_lt, e, hi] at hc
    exact h (by omega)
theorem law_loop (X : zXl k g cs sl n xs) : ∀ (m p : Nat) (i : Int32) (I : zI) (L : zL), i.toInt = p → n < p + 6 * m → R I L → AG k g (PW g I L) cs sl 4 18 (lsL i) [] := by
  have hn : n ≤ 3072 := X.2.2.2.2.1
  intro m
  induction m with
  | zero =>
    intro p i I L hi hm hR
    exact law_head X hi (fun h => absurd h (by omega))
  | succ m ih =>
    intro p i I L hi hm hR
    refine law_head X hi (fun h6 => ?_)
    refine law_body X hi h6 hR (fun I2 L2 hR2 => ?_)
    have e : (i + Int32.ofInt 6).toInt = ((p + 6 : Nat) : Int) := by
      have e6 : (Int32.ofInt 6).toInt = 6 := by decide
      rw [fb_addI (by omega) (by omega)]
      omega
    refine ag_iinc (v := i + Int32.ofInt 6) X.1 0 dL_law_1735 rfl rfl (by decide) rfl ?_
    refine ag_goto X.1 18 dL_law_1738 rfl ?_
    exact ih (p + 6) _ I2 L2 e (by omega) hR2
end ZLO
