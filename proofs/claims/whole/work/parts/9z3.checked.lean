/-! stub -/
theorem zk_227 : zAll cL_law 13 4 (some .boolean) false zc_L_law := sorry
theorem zAll_ok : zAllOk := sorry
