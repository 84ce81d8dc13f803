theorem okL_12 : (cL_12).all (xcE xB xcs xtl xT0 xkd "PatchChains" yI0 xol m_law) = true := by decide +kernel
theorem okL_13 : (cL_13).all (xcE xB xcs xtl xT0 xkd "PatchChains" yI0 xol m_law) = true := by decide +kernel
theorem okL_14 : (cL_14).all (xcE xB xcs xtl xT0 xkd "PatchChains" yI0 xol m_law) = true := by decide +kernel
