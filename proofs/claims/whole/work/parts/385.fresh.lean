/-! what is blank behind LastLent(): written by wip/whole/fresh.py -/
set_option maxHeartbeats 4000000 in
set_option maxRecDepth 100000 in
theorem fr_X4_init {μr : z_M} {μ : z_M} (hfr : z_fr μ 1) (h : f_X4_init μ = some μr) : z_fr μr 98 := by
  unfold f_X4_init at h
  have hfr10 : z_fr μ 2 := hfr.up (by omega)
  obtain ⟨μ12, e13, h⟩ := z_st_some h
  have hfr14 : z_fr μ12 2 := by rw [e13]; exact hfr10.sr (by omega) (by omega)
  have hfr26 : z_fr μ12 3 := hfr14.up (by omega)
  obtain ⟨μ28, hx29, h⟩ := z_b1_some h
  have hfr33 : z_fr μ28 4 := fr_X1_init (by omega) hfr26 hx29
  obtain ⟨μ43, e44, h⟩ := z_st_some h
  have hfr45 : z_fr μ43 4 := by rw [e44]; exact hfr33.sr (by omega) (by omega)
  have hfr58 : z_fr μ43 5 := hfr45.up (by omega)
  obtain ⟨μ60, hx61, h⟩ := z_b1_some h
  have hfr65 : z_fr μ60 15 := fr_X3_init (by omega) hfr58 hx61
  obtain ⟨μ76, e77, h⟩ := z_st_some h
  have hfr78 : z_fr μ76 15 := by rw [e77]; exact hfr65.sr (by omega) (by omega)
  have hfr92 : z_fr μ76 16 := hfr78.up (by omega)
  obtain ⟨μ94, hx95, h⟩ := z_b1_some h
  have hfr99 : z_fr μ94 26 := fr_X3_init (by omega) hfr92 hx95
  obtain ⟨μ111, e112, h⟩ := z_st_some h
  have hfr113 : z_fr μ111 26 := by rw [e112]; exact hfr99.sr (by omega) (by omega)
  have hfr128 : z_fr μ111 27 := hfr113.up (by omega)
  obtain ⟨μ130, e131, h⟩ := z_st_some h
  have hfr132 : z_fr μ130 27 := by rw [e131]; exact hfr128.sr (by omega) (by omega)
  have hfr149 : z_fr μ130 28 := hfr132.up (by omega)
  obtain ⟨μ150, e151, h⟩ := z_st_some h
  have hfr152 : z_fr μ150 28 := by rw [e151]; exact hfr149.sr (by omega) (by omega)
  have hfr169 : z_fr μ150 29 := hfr152.up (by omega)
  obtain ⟨μ171, hx172, h⟩ := z_b1_some h
  have hfr176 : z_fr μ171 49 := fr_X2_init (by omega) hfr169 hx172
  obtain ⟨μ191, e192, h⟩ := z_st_some h
  have hfr193 : z_fr μ191 49 := by rw [e192]; exact hfr176.sr (by omega) (by omega)
  have hfr211 : z_fr μ191 50 := hfr193.up (by omega)
  obtain ⟨μ212, e213, h⟩ := z_st_some h
  have hfr214 : z_fr μ212 50 := by rw [e213]; exact hfr211.sr (by omega) (by omega)
  have hfr232 : z_fr μ212 51 := hfr214.up (by omega)
  obtain ⟨μ233, e234, h⟩ := z_st_some h
  have hfr235 : z_fr μ233 51 := by rw [e234]; exact hfr232.sr (by omega) (by omega)
  have hfr253 : z_fr μ233 52 := hfr235.up (by omega)
  obtain ⟨μ255, hx256, h⟩ := z_b1_some h
  have hfr260 : z_fr μ255 56 := fr_X0_init (by omega) hfr253 hx256
  obtain ⟨μ276, e277, h⟩ := z_st_some h
  have hfr278 : z_fr μ276 56 := by rw [e277]; exact hfr260.sr (by omega) (by omega)
  have hfr297 : z_fr μ276 57 := hfr278.up (by omega)
  obtain ⟨μ299, hx300, h⟩ := z_b1_some h
  have hfr304 : z_fr μ299 61 := fr_X0_init (by omega) hfr297 hx300
  obtain ⟨μ321, e322, h⟩ := z_st_some h
  have hfr323 : z_fr μ321 61 := by rw [e322]; exact hfr304.sr (by omega) (by omega)
  have hfr343 : z_fr μ321 62 := hfr323.up (by omega)
  obtain ⟨μ345, hx346, h⟩ := z_b1_some h
  have hfr350 : z_fr μ345 66 := fr_X0_init (by omega) hfr343 hx346
  obtain ⟨μ368, e369, h⟩ := z_st_some h
  have hfr370 : z_fr μ368 66 := by rw [e369]; exact hfr350.sr (by omega) (by omega)
  have hfr391 : z_fr μ368 67 := hfr370.up (by omega)
  obtain ⟨μ393, hx394, h⟩ := z_b1_some h
  have hfr398 : z_fr μ393 71 := fr_X0_init (by omega) hfr391 hx394
  obtain ⟨μ417, e418, h⟩ := z_st_some h
  have hfr419 : z_fr μ417 71 := by rw [e418]; exact hfr398.sr (by omega) (by omega)
  have hfr441 : z_fr μ417 72 := hfr419.up (by omega)
  obtain ⟨μ443, hx444, h⟩ := z_b1_some h
  have hfr448 : z_fr μ443 76 := fr_X0_init (by omega) hfr441 hx444
  obtain ⟨μ468, e469, h⟩ := z_st_some h
  have hfr470 : z_fr μ468 76 := by rw [e469]; exact hfr448.sr (by omega) (by omega)
  have hfr493 : z_fr μ468 77 := hfr470.up (by omega)
  obtain ⟨μ495, hx496, h⟩ := z_b1_some h
  have hfr500 : z_fr μ495 87 := fr_X3_init (by omega) hfr493 hx496
  obtain ⟨μ521, e522, h⟩ := z_st_some h
  have hfr523 : z_fr μ521 87 := by rw [e522]; exact hfr500.sr (by omega) (by omega)
  have hfr547 : z_fr μ521 88 := hfr523.up (by omega)
  obtain ⟨μ549, hx550, h⟩ := z_b1_some h
  have hfr554 : z_fr μ549 98 := fr_X3_init (by omega) hfr547 hx550
  obtain ⟨μ576, e577, h⟩ := z_st_some h
  have hfr578 : z_fr μ576 98 := by rw [e577]; exact hfr554.sr (by omega) (by omega)
  cases h
  exact hfr578.up (by decide)
