abbrev mX5_moveOn : zM := (cX5_moveOn, RX5, 2, none, zR 0 0)
theorem in5 : ∀ w ∈ wsX50, w ∈ lw_ok := fun w h => List.mem_filter.mpr ⟨(show ∀ w ∈ wsX50, w ∈ lw_tbl by decide +kernel) w h, (show ∀ w ∈ wsX50, goodWord w = true by decide +kernel) w h⟩
theorem lk_RX5_17 : zFk RX5 17 5 11 1 true (tyX5 1) := ⟨RX5, TX5, tyX5, rfl, by decide, by decide, in5, (List.mem_filter.mpr ⟨List.mem_of_getElem? (i := 326) (by decide +kernel), rfl⟩), tyX5_ok, nmX5, rfl, rfl⟩
theorem lk_RX5_35 : zFk RX5 35 5 11 3 false (.int) := ⟨RX5, TX5, tyX5, rfl, by decide, by decide, in5, (List.mem_filter.mpr ⟨List.mem_of_getElem? (i := 330) (by decide +kernel), rfl⟩), tyX5_ok, nmX5, rfl, rfl⟩
theorem lk_RX5_48 : zFk RX5 48 5 11 7 false (.int) := ⟨RX5, TX5, tyX5, rfl, by decide, by decide, in5, (List.mem_filter.mpr ⟨List.mem_of_getElem? (i := 336) (by decide +kernel), rfl⟩), tyX5_ok, nmX5, rfl, rfl⟩
theorem lk_RX5_39 : zFk RX5 39 5 11 4 false (.int) := ⟨RX5, TX5, tyX5, rfl, by decide, by decide, in5, (List.mem_filter.mpr ⟨List.mem_of_getElem? (i := 332) (by decide +kernel), rfl⟩), tyX5_ok, nmX5, rfl, rfl⟩
theorem lk_RX5_42 : zFk RX5 42 5 11 5 false (.int) := ⟨RX5, TX5, tyX5, rfl, by decide, by decide, in5, (List.mem_filter.mpr ⟨List.mem_of_getElem? (i := 333) (by decide +kernel), rfl⟩), tyX5_ok, nmX5, rfl, rfl⟩
theorem lk_RX5_21 : zFk RX5 21 5 11 2 true (tyX5 2) := ⟨RX5, TX5, tyX5, rfl, by decide, by decide, in5, (List.mem_filter.mpr ⟨List.mem_of_getElem? (i := 329) (by decide +kernel), rfl⟩), tyX5_ok, nmX5, rfl, rfl⟩
theorem lk_RX5_45 : zFk RX5 45 5 11 6 false (.int) := ⟨RX5, TX5, tyX5, rfl, by decide, by decide, in5, (List.mem_filter.mpr ⟨List.mem_of_getElem? (i := 334) (by decide +kernel), rfl⟩), tyX5_ok, nmX5, rfl, rfl⟩
