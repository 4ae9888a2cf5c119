theorem am_test : am_code 12 5 = ak 1 2 0 1 0 (-4) := rfl
